/-! ===== the law, laid by program ===== -/
def mYes : Mem → Prop := fun _ => True
def f_L_law_b1909 (K : Cfg) (L : Nat) (xs : Nat → Int32) (lp28 : Nat → Nat → Nat → Nat → Nat → Nat → Int32 → Mem → Prop) (u w : Nat) (v1 : Nat) (v2 : Nat) (v3 : Nat) (v4 : Nat) (v5 : Int32) : Mem → Prop :=
 lp28 u w v1 v2 v3 v4 (v5 + 6)
def f_L_law_b1892 (K : Cfg) (L : Nat) (xs : Nat → Int32) (lp28 : Nat → Nat → Nat → Nat → Nat → Nat → Int32 → Mem → Prop) (u w : Nat) (v1 : Nat) (v2 : Nat) (v3 : Nat) (v4 : Nat) (v5 : Int32) : Mem → Prop :=
 f_L_law_b1909 K L xs lp28 u w v1 v2 v3 v4 v5
def f_L_law_b1836 (K : Cfg) (L : Nat) (xs : Nat → Int32) (lp28 : Nat → Nat → Nat → Nat → Nat → Nat → Int32 → Mem → Prop) (u w : Nat) (v1 : Nat) (v2 : Nat) (v3 : Nat) (v4 : Nat) (v5 : Int32) : Mem → Prop :=
 f_L_law_b1909 K L xs lp28 u w v1 v2 v3 v4 v5
def f_L_law_b1768 (K : Cfg) (L : Nat) (xs : Nat → Int32) (lp28 : Nat → Nat → Nat → Nat → Nat → Nat → Int32 → Mem → Prop) (u w : Nat) (v1 : Nat) (v2 : Nat) (v3 : Nat) (v4 : Nat) (v5 : Int32) : Mem → Prop :=
 f_L_law_b1909 K L xs lp28 u w v1 v2 v3 v4 v5
def f_L_law_b1712 (K : Cfg) (L : Nat) (xs : Nat → Int32) (lp28 : Nat → Nat → Nat → Nat → Nat → Nat → Int32 → Mem → Prop) (u w : Nat) (v1 : Nat) (v2 : Nat) (v3 : Nat) (v4 : Nat) (v5 : Int32) : Mem → Prop :=
 f_L_law_b1909 K L xs lp28 u w v1 v2 v3 v4 v5
def f_L_law_b1632 (K : Cfg) (L : Nat) (xs : Nat → Int32) (lp28 : Nat → Nat → Nat → Nat → Nat → Nat → Int32 → Mem → Prop) (u w : Nat) (v1 : Nat) (v2 : Nat) (v3 : Nat) (v4 : Nat) (v5 : Int32) : Mem → Prop :=
 f_L_law_b1909 K L xs lp28 u w v1 v2 v3 v4 v5
def f_L_law_b1630 (K : Cfg) (L : Nat) (xs : Nat → Int32) (u w : Nat) : Mem → Prop :=
 mAs (u ≤ 601024 ∧ w ≤ 7293034) <|
 mNo
def f_L_law_b1579 (K : Cfg) (L : Nat) (xs : Nat → Int32) (lp28 : Nat → Nat → Nat → Nat → Nat → Nat → Int32 → Mem → Prop) (u w : Nat) (v1 : Nat) (v2 : Nat) (v3 : Nat) (v4 : Nat) (v5 : Int32) (v6 : Int32) (t0 : Nat) (t1 : Int32) (t2 : Int32) (t3 : Int32) (t4 : Int32) (t5 : Int32) : Mem → Prop :=
 mAs (u + 1 ≤ 601024 ∧ w + 13 ≤ 7293034) <|
 mRecv t0 10 <|
 f_X9_wouldLand K t0 t1 t2 t3 t4 t5 (fun r1 =>
 mAs (u + 1 ≤ 601024 ∧ w + 13 ≤ 7293034) <|
 mRecv v2 10 <|
 f_X9_thrown K v2 (fun r2 =>
 mIf (r2 = v6)
 (mIf (v6 = 0)
 (mLdD K v4 0 fun x3 =>
 mIf ((Op.cmpValue (FP.dcmp x3 r1) .l) = 0)
 (f_L_law_b1632 K L xs lp28 (u + 1) (w + 13) v1 v2 v3 v4 v5)
 (mLdD K v4 0 fun x4 =>
 mLdD K v4 0 fun x5 =>
 mIf ((Op.cmpValue (FP.dcmp x4 x5) .l) = 0)
 (f_L_law_b1630 K L xs (u + 1) (w + 13))
 (mIf ((Op.cmpValue (FP.dcmp r1 r1) .l) = 0)
 (f_L_law_b1630 K L xs (u + 1) (w + 13))
 (f_L_law_b1632 K L xs lp28 (u + 1) (w + 13) v1 v2 v3 v4 v5))))
 (f_L_law_b1632 K L xs lp28 (u + 1) (w + 13) v1 v2 v3 v4 v5))
 (mAs (u + 1 ≤ 601024 ∧ w + 13 ≤ 7293034) <|
 mNo)))
def f_L_law_b1533 (K : Cfg) (L : Nat) (xs : Nat → Int32) (lp28 : Nat → Nat → Nat → Nat → Nat → Nat → Int32 → Mem → Prop) (u w : Nat) (v1 : Nat) (v2 : Nat) (v3 : Nat) (v4 : Nat) (v5 : Int32) (t0 : Nat) (t1 : Int32) (t2 : Int32) (t3 : Int32) (t4 : Int32) (t5 : Int32) : Mem → Prop :=
 mAs (u + 1 ≤ 601024 ∧ w + 6 ≤ 7293034) <|
 f_L_wouldLand K t0 t1 t2 t3 t4 t5 v4 (fun r1 =>
 mAs (vp_in (v5 + 1) L) <|
 mAs (vp_in (v5 + 2) L) <|
 mAs (vp_in (v5 + 3) L) <|
 mAs (vp_in (v5 + 4) L) <|
 mAs (vp_in (v5 + 5) L) <|
 mIf ((xs (v5 + 5).toNatClampNeg) = 0)
 (f_L_law_b1579 K L xs lp28 (u + 1) (w + 6) v1 v2 v3 v4 v5 r1 v2 (xs (v5 + 1).toNatClampNeg) (xs (v5 + 2).toNatClampNeg) (xs (v5 + 3).toNatClampNeg) (xs (v5 + 4).toNatClampNeg) 0)
 (f_L_law_b1579 K L xs lp28 (u + 1) (w + 6) v1 v2 v3 v4 v5 r1 v2 (xs (v5 + 1).toNatClampNeg) (xs (v5 + 2).toNatClampNeg) (xs (v5 + 3).toNatClampNeg) (xs (v5 + 4).toNatClampNeg) 1))
def f_L_law_b1491 (K : Cfg) (L : Nat) (xs : Nat → Int32) (lp28 : Nat → Nat → Nat → Nat → Nat → Nat → Int32 → Mem → Prop) (u w : Nat) (v1 : Nat) (v2 : Nat) (v3 : Nat) (v4 : Nat) (v5 : Int32) : Mem → Prop :=
 f_L_law_b1909 K L xs lp28 u w v1 v2 v3 v4 v5
def f_L_law_b1435 (K : Cfg) (L : Nat) (xs : Nat → Int32) (lp28 : Nat → Nat → Nat → Nat → Nat → Nat → Int32 → Mem → Prop) (u w : Nat) (v1 : Nat) (v2 : Nat) (v3 : Nat) (v4 : Nat) (v5 : Int32) : Mem → Prop :=
 f_L_law_b1909 K L xs lp28 u w v1 v2 v3 v4 v5
def f_L_law_b1379 (K : Cfg) (L : Nat) (xs : Nat → Int32) (lp28 : Nat → Nat → Nat → Nat → Nat → Nat → Int32 → Mem → Prop) (u w : Nat) (v1 : Nat) (v2 : Nat) (v3 : Nat) (v4 : Nat) (v5 : Int32) : Mem → Prop :=
 f_L_law_b1909 K L xs lp28 u w v1 v2 v3 v4 v5
def f_L_law_b1346 (K : Cfg) (L : Nat) (xs : Nat → Int32) (lp28 : Nat → Nat → Nat → Nat → Nat → Nat → Int32 → Mem → Prop) (u w : Nat) (v1 : Nat) (v2 : Nat) (v3 : Nat) (v4 : Nat) (v5 : Int32) (v6 : Int32) (t0 : Nat) (t1 : Int32) (t2 : Int32) : Mem → Prop :=
 mAs (u ≤ 601024 ∧ w ≤ 7293034) <|
 mRecv t0 10 <|
 f_X9_ofWind K t0 t1 t2 (fun r1 =>
 mAs (u ≤ 601024 ∧ w ≤ 7293034) <|
 mRecv v2 10 <|
 f_X9_thrown K v2 (fun r2 =>
 mIf (r2 = v6)
 (mIf (v6 = 0)
 (mLdL K v3 0 fun x3 =>
 mIf ((lg_cmp x3 r1.toInt64) = 0)
 (f_L_law_b1379 K L xs lp28 u w v1 v2 v3 v4 v5)
 (mAs (u ≤ 601024 ∧ w ≤ 7293034) <|
 mNo))
 (f_L_law_b1379 K L xs lp28 u w v1 v2 v3 v4 v5))
 (mAs (u ≤ 601024 ∧ w ≤ 7293034) <|
 mNo)))
def f_L_law_b1319 (K : Cfg) (L : Nat) (xs : Nat → Int32) (lp28 : Nat → Nat → Nat → Nat → Nat → Nat → Int32 → Mem → Prop) (u w : Nat) (v1 : Nat) (v2 : Nat) (v3 : Nat) (v4 : Nat) (v5 : Int32) (t0 : Nat) (t1 : Int32) (t2 : Int32) : Mem → Prop :=
 mAs (u + 1 ≤ 601024 ∧ w + 6 ≤ 7293034) <|
 f_L_ofWind K t0 t1 t2 v3 (fun r1 =>
 mAs (vp_in (v5 + 1) L) <|
 mAs (vp_in (v5 + 2) L) <|
 mIf ((xs (v5 + 2).toNatClampNeg) = 0)
 (f_L_law_b1346 K L xs lp28 (u + 1) (w + 6) v1 v2 v3 v4 v5 r1 v2 (xs (v5 + 1).toNatClampNeg) 0)
 (f_L_law_b1346 K L xs lp28 (u + 1) (w + 6) v1 v2 v3 v4 v5 r1 v2 (xs (v5 + 1).toNatClampNeg) 1))
def f_L_law_b1295 (K : Cfg) (L : Nat) (xs : Nat → Int32) (lp28 : Nat → Nat → Nat → Nat → Nat → Nat → Int32 → Mem → Prop) (u w : Nat) (v1 : Nat) (v2 : Nat) (v3 : Nat) (v4 : Nat) (v5 : Int32) : Mem → Prop :=
 f_L_law_b1909 K L xs lp28 u w v1 v2 v3 v4 v5
def f_L_law_b1293 (K : Cfg) (L : Nat) (xs : Nat → Int32) (u w : Nat) : Mem → Prop :=
 mAs (u ≤ 601024 ∧ w ≤ 7293034) <|
 mNo
def f_L_law_b1218 (K : Cfg) (L : Nat) (xs : Nat → Int32) (lp28 : Nat → Nat → Nat → Nat → Nat → Nat → Int32 → Mem → Prop) (u w : Nat) (v1 : Nat) (v2 : Nat) (v3 : Nat) (v4 : Nat) (v5 : Int32) : Mem → Prop :=
 f_L_law_b1909 K L xs lp28 u w v1 v2 v3 v4 v5
def f_L_law_b1150 (K : Cfg) (L : Nat) (xs : Nat → Int32) (lp28 : Nat → Nat → Nat → Nat → Nat → Nat → Int32 → Mem → Prop) (u w : Nat) (v1 : Nat) (v2 : Nat) (v3 : Nat) (v4 : Nat) (v5 : Int32) : Mem → Prop :=
 f_L_law_b1909 K L xs lp28 u w v1 v2 v3 v4 v5
def f_L_law_b1094 (K : Cfg) (L : Nat) (xs : Nat → Int32) (lp28 : Nat → Nat → Nat → Nat → Nat → Nat → Int32 → Mem → Prop) (u w : Nat) (v1 : Nat) (v2 : Nat) (v3 : Nat) (v4 : Nat) (v5 : Int32) : Mem → Prop :=
 f_L_law_b1909 K L xs lp28 u w v1 v2 v3 v4 v5
def f_L_law_b1092 (K : Cfg) (L : Nat) (xs : Nat → Int32) (u w : Nat) : Mem → Prop :=
 mAs (u ≤ 601024 ∧ w ≤ 7293034) <|
 mNo
def f_L_law_b1041 (K : Cfg) (L : Nat) (xs : Nat → Int32) (lp28 : Nat → Nat → Nat → Nat → Nat → Nat → Int32 → Mem → Prop) (u w : Nat) (v1 : Nat) (v2 : Nat) (v3 : Nat) (v4 : Nat) (v5 : Int32) (v6 : Int32) (t0 : Nat) (t1 : Int32) (t2 : Int32) : Mem → Prop :=
 mAs (u ≤ 601024 ∧ w ≤ 7293034) <|
 mRecv t0 10 <|
 f_X9_landed K t0 t1 t2 (fun r1 =>
 mAs (u ≤ 601024 ∧ w ≤ 7293034) <|
 mRecv v2 10 <|
 f_X9_thrown K v2 (fun r2 =>
 mIf (r2 = v6)
 (mIf (v6 = 0)
 (mLdD K v4 0 fun x3 =>
 mIf ((Op.cmpValue (FP.dcmp x3 r1) .l) = 0)
 (f_L_law_b1094 K L xs lp28 u w v1 v2 v3 v4 v5)
 (mLdD K v4 0 fun x4 =>
 mLdD K v4 0 fun x5 =>
 mIf ((Op.cmpValue (FP.dcmp x4 x5) .l) = 0)
 (f_L_law_b1092 K L xs u w)
 (mIf ((Op.cmpValue (FP.dcmp r1 r1) .l) = 0)
 (f_L_law_b1092 K L xs u w)
 (f_L_law_b1094 K L xs lp28 u w v1 v2 v3 v4 v5))))
 (f_L_law_b1094 K L xs lp28 u w v1 v2 v3 v4 v5))
 (mAs (u ≤ 601024 ∧ w ≤ 7293034) <|
 mNo)))
def f_L_law_b1013 (K : Cfg) (L : Nat) (xs : Nat → Int32) (lp28 : Nat → Nat → Nat → Nat → Nat → Nat → Int32 → Mem → Prop) (u w : Nat) (v1 : Nat) (v2 : Nat) (v3 : Nat) (v4 : Nat) (v5 : Int32) (t0 : Nat) (t1 : Int32) (t2 : Int32) : Mem → Prop :=
 mAs (u + 1 ≤ 601024 ∧ w + 6 ≤ 7293034) <|
 f_L_landed K t0 t1 t2 v4 (fun r1 =>
 mAs (vp_in (v5 + 1) L) <|
 mAs (vp_in (v5 + 2) L) <|
 mIf ((xs (v5 + 2).toNatClampNeg) = 0)
 (f_L_law_b1041 K L xs lp28 (u + 1) (w + 6) v1 v2 v3 v4 v5 r1 v2 (xs (v5 + 1).toNatClampNeg) 0)
 (f_L_law_b1041 K L xs lp28 (u + 1) (w + 6) v1 v2 v3 v4 v5 r1 v2 (xs (v5 + 1).toNatClampNeg) 1))
def f_L_law_b989 (K : Cfg) (L : Nat) (xs : Nat → Int32) (lp28 : Nat → Nat → Nat → Nat → Nat → Nat → Int32 → Mem → Prop) (u w : Nat) (v1 : Nat) (v2 : Nat) (v3 : Nat) (v4 : Nat) (v5 : Int32) : Mem → Prop :=
 f_L_law_b1909 K L xs lp28 u w v1 v2 v3 v4 v5
def f_L_law_b987 (K : Cfg) (L : Nat) (xs : Nat → Int32) (u w : Nat) : Mem → Prop :=
 mAs (u ≤ 601024 ∧ w ≤ 7293034) <|
 mNo
def f_L_law_b912 (K : Cfg) (L : Nat) (xs : Nat → Int32) (lp28 : Nat → Nat → Nat → Nat → Nat → Nat → Int32 → Mem → Prop) (u w : Nat) (v1 : Nat) (v2 : Nat) (v3 : Nat) (v4 : Nat) (v5 : Int32) : Mem → Prop :=
 f_L_law_b1909 K L xs lp28 u w v1 v2 v3 v4 v5
def f_L_law_b826 (K : Cfg) (L : Nat) (xs : Nat → Int32) (lp28 : Nat → Nat → Nat → Nat → Nat → Nat → Int32 → Mem → Prop) (u w : Nat) (v1 : Nat) (v2 : Nat) (v3 : Nat) (v4 : Nat) (v5 : Int32) (t0 : Int32) (t1 : Nat) (t2 : Int32) : Mem → Prop :=
 mAs (u ≤ 601024 ∧ w ≤ 7293034) <|
 mRecv t1 10 <|
 f_X9_hold K t1 t2 (fun r1 =>
 mIf (t0 = r1)
 (f_L_law_b1909 K L xs lp28 u w v1 v2 v3 v4 v5)
 (mAs (u ≤ 601024 ∧ w ≤ 7293034) <|
 mNo))
def f_L_law_b808 (K : Cfg) (L : Nat) (xs : Nat → Int32) (lp28 : Nat → Nat → Nat → Nat → Nat → Nat → Int32 → Mem → Prop) (u w : Nat) (v1 : Nat) (v2 : Nat) (v3 : Nat) (v4 : Nat) (v5 : Int32) (t0 : Nat) (t1 : Int32) : Mem → Prop :=
 mAs (u ≤ 601024 ∧ w ≤ 7293034) <|
 mRecv t0 6 <|
 f_X5_hold K t0 t1 (fun r1 =>
 mAs (vp_in (v5 + 1) L) <|
 mIf ((xs (v5 + 1).toNatClampNeg) = 0)
 (f_L_law_b826 K L xs lp28 u w v1 v2 v3 v4 v5 r1 v2 0)
 (f_L_law_b826 K L xs lp28 u w v1 v2 v3 v4 v5 r1 v2 1))
def f_L_law_b790 (K : Cfg) (L : Nat) (xs : Nat → Int32) (lp28 : Nat → Nat → Nat → Nat → Nat → Nat → Int32 → Mem → Prop) (u w : Nat) (v1 : Nat) (v2 : Nat) (v3 : Nat) (v4 : Nat) (v5 : Int32) : Mem → Prop :=
 f_L_law_b1909 K L xs lp28 u w v1 v2 v3 v4 v5
def f_L_law_b709 (K : Cfg) (L : Nat) (xs : Nat → Int32) (lp28 : Nat → Nat → Nat → Nat → Nat → Nat → Int32 → Mem → Prop) (u w : Nat) (v1 : Nat) (v2 : Nat) (v3 : Nat) (v4 : Nat) (v5 : Int32) : Mem → Prop :=
 f_L_law_b1909 K L xs lp28 u w v1 v2 v3 v4 v5
def f_L_law_b629 (K : Cfg) (L : Nat) (xs : Nat → Int32) (lp28 : Nat → Nat → Nat → Nat → Nat → Nat → Int32 → Mem → Prop) (u w : Nat) (v1 : Nat) (v2 : Nat) (v3 : Nat) (v4 : Nat) (v5 : Int32) : Mem → Prop :=
 f_L_law_b1909 K L xs lp28 u w v1 v2 v3 v4 v5
def f_L_law_b549 (K : Cfg) (L : Nat) (xs : Nat → Int32) (lp28 : Nat → Nat → Nat → Nat → Nat → Nat → Int32 → Mem → Prop) (u w : Nat) (v1 : Nat) (v2 : Nat) (v3 : Nat) (v4 : Nat) (v5 : Int32) : Mem → Prop :=
 f_L_law_b1909 K L xs lp28 u w v1 v2 v3 v4 v5
def f_L_law_b493 (K : Cfg) (L : Nat) (xs : Nat → Int32) (lp28 : Nat → Nat → Nat → Nat → Nat → Nat → Int32 → Mem → Prop) (u w : Nat) (v1 : Nat) (v2 : Nat) (v3 : Nat) (v4 : Nat) (v5 : Int32) : Mem → Prop :=
 f_L_law_b1909 K L xs lp28 u w v1 v2 v3 v4 v5
def f_L_law_b437 (K : Cfg) (L : Nat) (xs : Nat → Int32) (lp28 : Nat → Nat → Nat → Nat → Nat → Nat → Int32 → Mem → Prop) (u w : Nat) (v1 : Nat) (v2 : Nat) (v3 : Nat) (v4 : Nat) (v5 : Int32) : Mem → Prop :=
 f_L_law_b1909 K L xs lp28 u w v1 v2 v3 v4 v5
def f_L_law_b369 (K : Cfg) (L : Nat) (xs : Nat → Int32) (lp28 : Nat → Nat → Nat → Nat → Nat → Nat → Int32 → Mem → Prop) (u w : Nat) (v1 : Nat) (v2 : Nat) (v3 : Nat) (v4 : Nat) (v5 : Int32) : Mem → Prop :=
 f_L_law_b1909 K L xs lp28 u w v1 v2 v3 v4 v5
def f_L_law_b301 (K : Cfg) (L : Nat) (xs : Nat → Int32) (lp28 : Nat → Nat → Nat → Nat → Nat → Nat → Int32 → Mem → Prop) (u w : Nat) (v1 : Nat) (v2 : Nat) (v3 : Nat) (v4 : Nat) (v5 : Int32) : Mem → Prop :=
 f_L_law_b1909 K L xs lp28 u w v1 v2 v3 v4 v5
def f_L_law_b233 (K : Cfg) (L : Nat) (xs : Nat → Int32) (lp28 : Nat → Nat → Nat → Nat → Nat → Nat → Int32 → Mem → Prop) (u w : Nat) (v1 : Nat) (v2 : Nat) (v3 : Nat) (v4 : Nat) (v5 : Int32) : Mem → Prop :=
 f_L_law_b1909 K L xs lp28 u w v1 v2 v3 v4 v5
def f_L_law_b28_body (K : Cfg) (L : Nat) (xs : Nat → Int32) (lp28 : Nat → Nat → Nat → Nat → Nat → Nat → Int32 → Mem → Prop) (u w : Nat) (v1 : Nat) (v2 : Nat) (v3 : Nat) (v4 : Nat) (v5 : Int32) : Mem → Prop :=
 mIf (((Int32.ofNat L) - 6) < v5)
 (mAs (u ≤ 601024 ∧ w ≤ 7293034) <|
 mYes)
 (mAs (vp_in v5 L) <|
 mIf (((xs v5.toNatClampNeg) &&& 31).toInt < 0 ∨ 26 < ((xs v5.toNatClampNeg) &&& 31).toInt)
 (f_L_law_b1909 K L xs lp28 u w v1 v2 v3 v4 v5)
 (mIf (((xs v5.toNatClampNeg) &&& 31) = 0)
 (mAs (vp_in (v5 + 1) L) <|
 mAs (vp_in (v5 + 2) L) <|
 mAs (u + 1 ≤ 601024 ∧ w + 6 ≤ 7293034) <|
 f_L_jumper K v1 (xs (v5 + 1).toNatClampNeg) (xs (v5 + 2).toNatClampNeg) v3 (fun r1 =>
 mAs (vp_in (v5 + 1) L) <|
 mAs (vp_in (v5 + 2) L) <|
 mAs (u + 1 + 2 ≤ 601024 ∧ w + 6 + 22 ≤ 7293034) <|
 mRecv v2 10 <|
 f_X9_jumper K v2 (xs (v5 + 1).toNatClampNeg) (xs (v5 + 2).toNatClampNeg) (fun r2 =>
 mAs (u + 1 + 2 ≤ 601024 ∧ w + 6 + 22 ≤ 7293034) <|
 mRecv v2 10 <|
 f_X9_thrown K v2 (fun r3 =>
 mIf (r3 = r1)
 (mIf (r1 = 0)
 (mLdL K v3 0 fun x4 =>
 mIf ((lg_cmp x4 r2.toInt64) = 0)
 (f_L_law_b233 K L xs lp28 (u + 1 + 2) (w + 6 + 22) v1 v2 v3 v4 v5)
 (mAs (u + 1 + 2 ≤ 601024 ∧ w + 6 + 22 ≤ 7293034) <|
 mNo))
 (f_L_law_b233 K L xs lp28 (u + 1 + 2) (w + 6 + 22) v1 v2 v3 v4 v5))
 (mAs (u + 1 + 2 ≤ 601024 ∧ w + 6 + 22 ≤ 7293034) <|
 mNo)))))
 (mIf (((xs v5.toNatClampNeg) &&& 31) = 1)
 (mAs (vp_in (v5 + 1) L) <|
 mAs (vp_in (v5 + 2) L) <|
 mAs (u + 1 ≤ 601024 ∧ w + 6 ≤ 7293034) <|
 f_L_rig K v1 (xs (v5 + 1).toNatClampNeg) (xs (v5 + 2).toNatClampNeg) v3 (fun r5 =>
 mAs (vp_in (v5 + 1) L) <|
 mAs (vp_in (v5 + 2) L) <|
 mAs (u + 1 + 2 ≤ 601024 ∧ w + 6 + 15 ≤ 7293034) <|
 mRecv v2 10 <|
 f_X9_rig K v2 (xs (v5 + 1).toNatClampNeg) (xs (v5 + 2).toNatClampNeg) (fun r6 =>
 mAs (u + 1 + 2 ≤ 601024 ∧ w + 6 + 15 ≤ 7293034) <|
 mRecv v2 10 <|
 f_X9_thrown K v2 (fun r7 =>
 mIf (r7 = r5)
 (mIf (r5 = 0)
 (mLdL K v3 0 fun x8 =>
 mIf ((lg_cmp x8 r6.toInt64) = 0)
 (f_L_law_b301 K L xs lp28 (u + 1 + 2) (w + 6 + 15) v1 v2 v3 v4 v5)
 (mAs (u + 1 + 2 ≤ 601024 ∧ w + 6 + 15 ≤ 7293034) <|
 mNo))
 (f_L_law_b301 K L xs lp28 (u + 1 + 2) (w + 6 + 15) v1 v2 v3 v4 v5))
 (mAs (u + 1 + 2 ≤ 601024 ∧ w + 6 + 15 ≤ 7293034) <|
 mNo)))))
 (mIf (((xs v5.toNatClampNeg) &&& 31) = 2)
 (mAs (vp_in (v5 + 1) L) <|
 mAs (vp_in (v5 + 2) L) <|
 mAs (u + 1 ≤ 601024 ∧ w + 6 ≤ 7293034) <|
 f_L_lend K v1 (xs (v5 + 1).toNatClampNeg) (xs (v5 + 2).toNatClampNeg) v3 (fun r9 =>
 mAs (vp_in (v5 + 1) L) <|
 mAs (vp_in (v5 + 2) L) <|
 mAs (u + 1 ≤ 601024 ∧ w + 6 ≤ 7293034) <|
 mRecv v2 10 <|
 f_X9_lend K v2 (xs (v5 + 1).toNatClampNeg) (xs (v5 + 2).toNatClampNeg) (fun r10 =>
 mAs (u + 1 ≤ 601024 ∧ w + 6 ≤ 7293034) <|
 mRecv v2 10 <|
 f_X9_thrown K v2 (fun r11 =>
 mIf (r11 = r9)
 (mIf (r9 = 0)
 (mLdL K v3 0 fun x12 =>
 mIf ((lg_cmp x12 r10.toInt64) = 0)
 (f_L_law_b369 K L xs lp28 (u + 1) (w + 6) v1 v2 v3 v4 v5)
 (mAs (u + 1 ≤ 601024 ∧ w + 6 ≤ 7293034) <|
 mNo))
 (f_L_law_b369 K L xs lp28 (u + 1) (w + 6) v1 v2 v3 v4 v5))
 (mAs (u + 1 ≤ 601024 ∧ w + 6 ≤ 7293034) <|
 mNo)))))
 (mIf (((xs v5.toNatClampNeg) &&& 31) = 3)
 (mAs (vp_in (v5 + 1) L) <|
 mAs (vp_in (v5 + 2) L) <|
 mAs (u + 1 ≤ 601024 ∧ w + 6 ≤ 7293034) <|
 f_L_pack K v1 (xs (v5 + 1).toNatClampNeg) (xs (v5 + 2).toNatClampNeg) v3 (fun r13 =>
 mAs (vp_in (v5 + 1) L) <|
 mAs (vp_in (v5 + 2) L) <|
 mAs (u + 1 ≤ 601024 ∧ w + 6 ≤ 7293034) <|
 mRecv v2 10 <|
 f_X9_pack K v2 (xs (v5 + 1).toNatClampNeg) (xs (v5 + 2).toNatClampNeg) (fun r14 =>
 mAs (u + 1 ≤ 601024 ∧ w + 6 ≤ 7293034) <|
 mRecv v2 10 <|
 f_X9_thrown K v2 (fun r15 =>
 mIf (r15 = r13)
 (mIf (r13 = 0)
 (mLdL K v3 0 fun x16 =>
 mIf ((lg_cmp x16 r14.toInt64) = 0)
 (f_L_law_b437 K L xs lp28 (u + 1) (w + 6) v1 v2 v3 v4 v5)
 (mAs (u + 1 ≤ 601024 ∧ w + 6 ≤ 7293034) <|
 mNo))
 (f_L_law_b437 K L xs lp28 (u + 1) (w + 6) v1 v2 v3 v4 v5))
 (mAs (u + 1 ≤ 601024 ∧ w + 6 ≤ 7293034) <|
 mNo)))))
 (mIf (((xs v5.toNatClampNeg) &&& 31) = 4)
 (mAs (vp_in (v5 + 1) L) <|
 mAs (u + 1 ≤ 601024 ∧ w + 6 ≤ 7293034) <|
 f_L_renew K v1 (xs (v5 + 1).toNatClampNeg) v3 (fun r17 =>
 mAs (vp_in (v5 + 1) L) <|
 mAs (u + 1 ≤ 601024 ∧ w + 6 ≤ 7293034) <|
 mRecv v2 10 <|
 f_X9_renew K v2 (xs (v5 + 1).toNatClampNeg) (fun r18 =>
 mAs (u + 1 ≤ 601024 ∧ w + 6 ≤ 7293034) <|
 mRecv v2 10 <|
 f_X9_thrown K v2 (fun r19 =>
 mIf (r19 = r17)
 (mIf (r17 = 0)
 (mLdL K v3 0 fun x20 =>
 mIf ((lg_cmp x20 r18.toInt64) = 0)
 (f_L_law_b493 K L xs lp28 (u + 1) (w + 6) v1 v2 v3 v4 v5)
 (mAs (u + 1 ≤ 601024 ∧ w + 6 ≤ 7293034) <|
 mNo))
 (f_L_law_b493 K L xs lp28 (u + 1) (w + 6) v1 v2 v3 v4 v5))
 (mAs (u + 1 ≤ 601024 ∧ w + 6 ≤ 7293034) <|
 mNo)))))
 (mIf (((xs v5.toNatClampNeg) &&& 31) = 5)
 (mAs (vp_in (v5 + 1) L) <|
 mAs (u + 1 ≤ 601024 ∧ w + 6 ≤ 7293034) <|
 f_L_pass K v1 (xs (v5 + 1).toNatClampNeg) v3 (fun r21 =>
 mAs (vp_in (v5 + 1) L) <|
 mAs (u + 1 ≤ 601024 ∧ w + 6 ≤ 7293034) <|
 mRecv v2 10 <|
 f_X9_pass K v2 (xs (v5 + 1).toNatClampNeg) (fun r22 =>
 mAs (u + 1 ≤ 601024 ∧ w + 6 ≤ 7293034) <|
 mRecv v2 10 <|
 f_X9_thrown K v2 (fun r23 =>
 mIf (r23 = r21)
 (mIf (r21 = 0)
 (mLdL K v3 0 fun x24 =>
 mIf ((lg_cmp x24 r22.toInt64) = 0)
 (f_L_law_b549 K L xs lp28 (u + 1) (w + 6) v1 v2 v3 v4 v5)
 (mAs (u + 1 ≤ 601024 ∧ w + 6 ≤ 7293034) <|
 mNo))
 (f_L_law_b549 K L xs lp28 (u + 1) (w + 6) v1 v2 v3 v4 v5))
 (mAs (u + 1 ≤ 601024 ∧ w + 6 ≤ 7293034) <|
 mNo)))))
 (mIf (((xs v5.toNatClampNeg) &&& 31) = 6)
 (mAs (vp_in (v5 + 1) L) <|
 mAs (vp_in (v5 + 2) L) <|
 mAs (vp_in (v5 + 3) L) <|
 mAs (u + 1 ≤ 601024 ∧ w + 6 ≤ 7293034) <|
 f_L_wind K v1 (xs (v5 + 1).toNatClampNeg) (xs (v5 + 2).toNatClampNeg) (xs (v5 + 3).toNatClampNeg) v3 (fun r25 =>
 mAs (vp_in (v5 + 1) L) <|
 mAs (vp_in (v5 + 2) L) <|
 mAs (vp_in (v5 + 3) L) <|
 mAs (u + 1 ≤ 601024 ∧ w + 6 ≤ 7293034) <|
 mRecv v2 10 <|
 f_X9_wind K v2 (xs (v5 + 1).toNatClampNeg) (xs (v5 + 2).toNatClampNeg) (xs (v5 + 3).toNatClampNeg) (fun r26 =>
 mAs (u + 1 ≤ 601024 ∧ w + 6 ≤ 7293034) <|
 mRecv v2 10 <|
 f_X9_thrown K v2 (fun r27 =>
 mIf (r27 = r25)
 (mIf (r25 = 0)
 (mLdL K v3 0 fun x28 =>
 mIf ((lg_cmp x28 r26.toInt64) = 0)
 (f_L_law_b629 K L xs lp28 (u + 1) (w + 6) v1 v2 v3 v4 v5)
 (mAs (u + 1 ≤ 601024 ∧ w + 6 ≤ 7293034) <|
 mNo))
 (f_L_law_b629 K L xs lp28 (u + 1) (w + 6) v1 v2 v3 v4 v5))
 (mAs (u + 1 ≤ 601024 ∧ w + 6 ≤ 7293034) <|
 mNo)))))
 (mIf (((xs v5.toNatClampNeg) &&& 31) = 7)
 (mAs (vp_in (v5 + 1) L) <|
 mAs (vp_in (v5 + 2) L) <|
 mAs (vp_in (v5 + 3) L) <|
 mAs (u + 1 ≤ 601024 ∧ w + 6 ≤ 7293034) <|
 f_L_board K v1 (xs (v5 + 1).toNatClampNeg) (xs (v5 + 2).toNatClampNeg) (xs (v5 + 3).toNatClampNeg) v3 (fun r29 =>
 mAs (vp_in (v5 + 1) L) <|
 mAs (vp_in (v5 + 2) L) <|
 mAs (vp_in (v5 + 3) L) <|
 mAs (u + 1 ≤ 601024 ∧ w + 6 ≤ 7293034) <|
 mRecv v2 10 <|
 f_X9_board K v2 (xs (v5 + 1).toNatClampNeg) (xs (v5 + 2).toNatClampNeg) (xs (v5 + 3).toNatClampNeg) (fun r30 =>
 mAs (u + 1 ≤ 601024 ∧ w + 6 ≤ 7293034) <|
 mRecv v2 10 <|
 f_X9_thrown K v2 (fun r31 =>
 mIf (r31 = r29)
 (mIf (r29 = 0)
 (mLdL K v3 0 fun x32 =>
 mIf ((lg_cmp x32 r30.toInt64) = 0)
 (f_L_law_b709 K L xs lp28 (u + 1) (w + 6) v1 v2 v3 v4 v5)
 (mAs (u + 1 ≤ 601024 ∧ w + 6 ≤ 7293034) <|
 mNo))
 (f_L_law_b709 K L xs lp28 (u + 1) (w + 6) v1 v2 v3 v4 v5))
 (mAs (u + 1 ≤ 601024 ∧ w + 6 ≤ 7293034) <|
 mNo)))))
 (mIf (((xs v5.toNatClampNeg) &&& 31) = 8)
 (mAs (u ≤ 601024 ∧ w ≤ 7293034) <|
 mRecv v1 6 <|
 f_X5_empty K v1 (fun r33 =>
 mAs (u ≤ 601024 ∧ w ≤ 7293034) <|
 mRecv v2 10 <|
 f_X9_empty K v2 (fun r34 =>
 mIf (r33 = r34)
 (f_L_law_b1909 K L xs lp28 u w v1 v2 v3 v4 v5)
 (mAs (u ≤ 601024 ∧ w ≤ 7293034) <|
 mNo))))
 (mIf (((xs v5.toNatClampNeg) &&& 31) = 9)
 (mAs (vp_in (v5 + 1) L) <|
 mAs (vp_in (v5 + 2) L) <|
 mAs (u + 1 ≤ 601024 ∧ w + 6 ≤ 7293034) <|
 f_L_fly K v1 (xs (v5 + 1).toNatClampNeg) (xs (v5 + 2).toNatClampNeg) v3 (fun r35 =>
 mAs (vp_in (v5 + 1) L) <|
 mAs (vp_in (v5 + 2) L) <|
 mAs (u + 1 + 20 ≤ 601024 ∧ w + 6 + 183 ≤ 7293034) <|
 mRecv v2 10 <|
 f_X9_fly K v2 (xs (v5 + 1).toNatClampNeg) (xs (v5 + 2).toNatClampNeg) (fun r36 =>
 mAs (u + 1 + 20 ≤ 601024 ∧ w + 6 + 183 ≤ 7293034) <|
 mRecv v2 10 <|
 f_X9_thrown K v2 (fun r37 =>
 mIf (r37 = r35)
 (mIf (r35 = 0)
 (mLdL K v3 0 fun x38 =>
 mIf ((lg_cmp x38 r36.toInt64) = 0)
 (f_L_law_b790 K L xs lp28 (u + 1 + 20) (w + 6 + 183) v1 v2 v3 v4 v5)
 (mAs (u + 1 + 20 ≤ 601024 ∧ w + 6 + 183 ≤ 7293034) <|
 mNo))
 (f_L_law_b790 K L xs lp28 (u + 1 + 20) (w + 6 + 183) v1 v2 v3 v4 v5))
 (mAs (u + 1 + 20 ≤ 601024 ∧ w + 6 + 183 ≤ 7293034) <|
 mNo)))))
 (mIf (((xs v5.toNatClampNeg) &&& 31) = 10)
 (mAs (vp_in (v5 + 1) L) <|
 mIf ((xs (v5 + 1).toNatClampNeg) = 0)
 (f_L_law_b808 K L xs lp28 u w v1 v2 v3 v4 v5 v1 0)
 (f_L_law_b808 K L xs lp28 u w v1 v2 v3 v4 v5 v1 1))
 (mIf (((xs v5.toNatClampNeg) &&& 31) = 11)
 (mAs (u ≤ 601024 ∧ w ≤ 7293034) <|
 mRecv v1 6 <|
 f_X5_gong K v1 (fun r39 =>
 mAs (u ≤ 601024 ∧ w ≤ 7293034) <|
 mRecv v2 10 <|
 f_X9_gong K v2 (fun r40 =>
 mIf (r39 = r40)
 (f_L_law_b1909 K L xs lp28 u w v1 v2 v3 v4 v5)
 (mAs (u ≤ 601024 ∧ w ≤ 7293034) <|
 mNo))))
 (mIf (((xs v5.toNatClampNeg) &&& 31) = 12)
 (mAs (vp_in (v5 + 1) L) <|
 mAs (vp_in (v5 + 2) L) <|
 mAs (u + 1 ≤ 601024 ∧ w + 6 ≤ 7293034) <|
 f_L_ofJumper K v1 (xs (v5 + 1).toNatClampNeg) (xs (v5 + 2).toNatClampNeg) v3 (fun r41 =>
 mAs (vp_in (v5 + 1) L) <|
 mAs (vp_in (v5 + 2) L) <|
 mAs (u + 1 + 1 ≤ 601024 ∧ w + 6 + 9 ≤ 7293034) <|
 mRecv v2 10 <|
 f_X9_ofJumper K v2 (xs (v5 + 1).toNatClampNeg) (xs (v5 + 2).toNatClampNeg) (fun r42 =>
 mAs (u + 1 + 1 ≤ 601024 ∧ w + 6 + 9 ≤ 7293034) <|
 mRecv v2 10 <|
 f_X9_thrown K v2 (fun r43 =>
 mIf (r43 = r41)
 (mIf (r41 = 0)
 (mLdL K v3 0 fun x44 =>
 mIf ((lg_cmp x44 r42.toInt64) = 0)
 (f_L_law_b912 K L xs lp28 (u + 1 + 1) (w + 6 + 9) v1 v2 v3 v4 v5)
 (mAs (u + 1 + 1 ≤ 601024 ∧ w + 6 + 9 ≤ 7293034) <|
 mNo))
 (f_L_law_b912 K L xs lp28 (u + 1 + 1) (w + 6 + 9) v1 v2 v3 v4 v5))
 (mAs (u + 1 + 1 ≤ 601024 ∧ w + 6 + 9 ≤ 7293034) <|
 mNo)))))
 (mIf (((xs v5.toNatClampNeg) &&& 31) = 13)
 (mAs (vp_in (v5 + 1) L) <|
 mAs (u + 1 ≤ 601024 ∧ w + 6 ≤ 7293034) <|
 f_L_loading K v1 (xs (v5 + 1).toNatClampNeg) v4 (fun r45 =>
 mAs (vp_in (v5 + 1) L) <|
 mAs (u + 1 ≤ 601024 ∧ w + 6 ≤ 7293034) <|
 mRecv v2 10 <|
 f_X9_loading__ K v2 (xs (v5 + 1).toNatClampNeg) (fun r46 =>
 mAs (u + 1 ≤ 601024 ∧ w + 6 ≤ 7293034) <|
 mRecv v2 10 <|
 f_X9_thrown K v2 (fun r47 =>
 mIf (r47 = r45)
 (mIf (r45 = 0)
 (mLdD K v4 0 fun x48 =>
 mIf ((Op.cmpValue (FP.dcmp x48 r46) .l) = 0)
 (f_L_law_b989 K L xs lp28 (u + 1) (w + 6) v1 v2 v3 v4 v5)
 (mLdD K v4 0 fun x49 =>
 mLdD K v4 0 fun x50 =>
 mIf ((Op.cmpValue (FP.dcmp x49 x50) .l) = 0)
 (f_L_law_b987 K L xs (u + 1) (w + 6))
 (mIf ((Op.cmpValue (FP.dcmp r46 r46) .l) = 0)
 (f_L_law_b987 K L xs (u + 1) (w + 6))
 (f_L_law_b989 K L xs lp28 (u + 1) (w + 6) v1 v2 v3 v4 v5))))
 (f_L_law_b989 K L xs lp28 (u + 1) (w + 6) v1 v2 v3 v4 v5))
 (mAs (u + 1 ≤ 601024 ∧ w + 6 ≤ 7293034) <|
 mNo)))))
 (mIf (((xs v5.toNatClampNeg) &&& 31) = 14)
 (mAs (vp_in (v5 + 1) L) <|
 mAs (vp_in (v5 + 2) L) <|
 mIf ((xs (v5 + 2).toNatClampNeg) = 0)
 (f_L_law_b1013 K L xs lp28 u w v1 v2 v3 v4 v5 v1 (xs (v5 + 1).toNatClampNeg) 0)
 (f_L_law_b1013 K L xs lp28 u w v1 v2 v3 v4 v5 v1 (xs (v5 + 1).toNatClampNeg) 1))
 (mIf (((xs v5.toNatClampNeg) &&& 31) = 15)
 (mAs (vp_in (v5 + 1) L) <|
 mAs (u + 1 ≤ 601024 ∧ w + 6 ≤ 7293034) <|
 f_L_refuses K v1 (xs (v5 + 1).toNatClampNeg) v3 (fun r51 =>
 mAs (vp_in (v5 + 1) L) <|
 mAs (u + 1 ≤ 601024 ∧ w + 6 ≤ 7293034) <|
 mRecv v2 10 <|
 f_X9_refuses K v2 (xs (v5 + 1).toNatClampNeg) (fun r52 =>
 mAs (u + 1 ≤ 601024 ∧ w + 6 ≤ 7293034) <|
 mRecv v2 10 <|
 f_X9_thrown K v2 (fun r53 =>
 mIf (r53 = r51)
 (mIf (r51 = 0)
 (mLdL K v3 0 fun x54 =>
 mIf ((lg_cmp x54 r52.toInt64) = 0)
 (f_L_law_b1150 K L xs lp28 (u + 1) (w + 6) v1 v2 v3 v4 v5)
 (mAs (u + 1 ≤ 601024 ∧ w + 6 ≤ 7293034) <|
 mNo))
 (f_L_law_b1150 K L xs lp28 (u + 1) (w + 6) v1 v2 v3 v4 v5))
 (mAs (u + 1 ≤ 601024 ∧ w + 6 ≤ 7293034) <|
 mNo)))))
 (mIf (((xs v5.toNatClampNeg) &&& 31) = 16)
 (mAs (vp_in (v5 + 1) L) <|
 mAs (vp_in (v5 + 2) L) <|
 mAs (u + 1 ≤ 601024 ∧ w + 6 ≤ 7293034) <|
 f_L_ofRig K v1 (xs (v5 + 1).toNatClampNeg) (xs (v5 + 2).toNatClampNeg) v3 (fun r55 =>
 mAs (vp_in (v5 + 1) L) <|
 mAs (vp_in (v5 + 2) L) <|
 mAs (u + 1 + 1 ≤ 601024 ∧ w + 6 + 5 ≤ 7293034) <|
 mRecv v2 10 <|
 f_X9_ofRig K v2 (xs (v5 + 1).toNatClampNeg) (xs (v5 + 2).toNatClampNeg) (fun r56 =>
 mAs (u + 1 + 1 ≤ 601024 ∧ w + 6 + 5 ≤ 7293034) <|
 mRecv v2 10 <|
 f_X9_thrown K v2 (fun r57 =>
 mIf (r57 = r55)
 (mIf (r55 = 0)
 (mLdL K v3 0 fun x58 =>
 mIf ((lg_cmp x58 r56.toInt64) = 0)
 (f_L_law_b1218 K L xs lp28 (u + 1 + 1) (w + 6 + 5) v1 v2 v3 v4 v5)
 (mAs (u + 1 + 1 ≤ 601024 ∧ w + 6 + 5 ≤ 7293034) <|
 mNo))
 (f_L_law_b1218 K L xs lp28 (u + 1 + 1) (w + 6 + 5) v1 v2 v3 v4 v5))
 (mAs (u + 1 + 1 ≤ 601024 ∧ w + 6 + 5 ≤ 7293034) <|
 mNo)))))
 (mIf (((xs v5.toNatClampNeg) &&& 31) = 17)
 (mAs (vp_in (v5 + 1) L) <|
 mAs (u + 1 ≤ 601024 ∧ w + 6 ≤ 7293034) <|
 f_L_wear K v1 (xs (v5 + 1).toNatClampNeg) v4 (fun r59 =>
 mAs (vp_in (v5 + 1) L) <|
 mAs (u + 1 ≤ 601024 ∧ w + 6 ≤ 7293034) <|
 mRecv v2 10 <|
 f_X9_wear K v2 (xs (v5 + 1).toNatClampNeg) (fun r60 =>
 mAs (u + 1 ≤ 601024 ∧ w + 6 ≤ 7293034) <|
 mRecv v2 10 <|
 f_X9_thrown K v2 (fun r61 =>
 mIf (r61 = r59)
 (mIf (r59 = 0)
 (mLdD K v4 0 fun x62 =>
 mIf ((Op.cmpValue (FP.dcmp x62 r60) .l) = 0)
 (f_L_law_b1295 K L xs lp28 (u + 1) (w + 6) v1 v2 v3 v4 v5)
 (mLdD K v4 0 fun x63 =>
 mLdD K v4 0 fun x64 =>
 mIf ((Op.cmpValue (FP.dcmp x63 x64) .l) = 0)
 (f_L_law_b1293 K L xs (u + 1) (w + 6))
 (mIf ((Op.cmpValue (FP.dcmp r60 r60) .l) = 0)
 (f_L_law_b1293 K L xs (u + 1) (w + 6))
 (f_L_law_b1295 K L xs lp28 (u + 1) (w + 6) v1 v2 v3 v4 v5))))
 (f_L_law_b1295 K L xs lp28 (u + 1) (w + 6) v1 v2 v3 v4 v5))
 (mAs (u + 1 ≤ 601024 ∧ w + 6 ≤ 7293034) <|
 mNo)))))
 (mIf (((xs v5.toNatClampNeg) &&& 31) = 18)
 (mAs (vp_in (v5 + 1) L) <|
 mAs (vp_in (v5 + 2) L) <|
 mIf ((xs (v5 + 2).toNatClampNeg) = 0)
 (f_L_law_b1319 K L xs lp28 u w v1 v2 v3 v4 v5 v1 (xs (v5 + 1).toNatClampNeg) 0)
 (f_L_law_b1319 K L xs lp28 u w v1 v2 v3 v4 v5 v1 (xs (v5 + 1).toNatClampNeg) 1))
 (mIf (((xs v5.toNatClampNeg) &&& 31) = 19)
 (mAs (vp_in (v5 + 1) L) <|
 mAs (u + 1 ≤ 601024 ∧ w + 6 ≤ 7293034) <|
 f_L_many K v1 (xs (v5 + 1).toNatClampNeg) v3 (fun r65 =>
 mAs (vp_in (v5 + 1) L) <|
 mAs (u + 1 + 1 ≤ 601024 ∧ w + 6 + 13 ≤ 7293034) <|
 mRecv v2 10 <|
 f_X9_many K v2 (xs (v5 + 1).toNatClampNeg) (fun r66 =>
 mAs (u + 1 + 1 ≤ 601024 ∧ w + 6 + 13 ≤ 7293034) <|
 mRecv v2 10 <|
 f_X9_thrown K v2 (fun r67 =>
 mIf (r67 = r65)
 (mIf (r65 = 0)
 (mLdL K v3 0 fun x68 =>
 mIf ((lg_cmp x68 r66.toInt64) = 0)
 (f_L_law_b1435 K L xs lp28 (u + 1 + 1) (w + 6 + 13) v1 v2 v3 v4 v5)
 (mAs (u + 1 + 1 ≤ 601024 ∧ w + 6 + 13 ≤ 7293034) <|
 mNo))
 (f_L_law_b1435 K L xs lp28 (u + 1 + 1) (w + 6 + 13) v1 v2 v3 v4 v5))
 (mAs (u + 1 + 1 ≤ 601024 ∧ w + 6 + 13 ≤ 7293034) <|
 mNo)))))
 (mIf (((xs v5.toNatClampNeg) &&& 31) = 20)
 (mAs (vp_in (v5 + 1) L) <|
 mAs (u + 1 ≤ 601024 ∧ w + 6 ≤ 7293034) <|
 f_L_order K v1 (xs (v5 + 1).toNatClampNeg) v3 (fun r69 =>
 mAs (vp_in (v5 + 1) L) <|
 mAs (u + 1 ≤ 601024 ∧ w + 6 ≤ 7293034) <|
 mRecv v2 10 <|
 f_X9_order K v2 (xs (v5 + 1).toNatClampNeg) (fun r70 =>
 mAs (u + 1 ≤ 601024 ∧ w + 6 ≤ 7293034) <|
 mRecv v2 10 <|
 f_X9_thrown K v2 (fun r71 =>
 mIf (r71 = r69)
 (mIf (r69 = 0)
 (mLdL K v3 0 fun x72 =>
 mIf ((lg_cmp x72 r70.toInt64) = 0)
 (f_L_law_b1491 K L xs lp28 (u + 1) (w + 6) v1 v2 v3 v4 v5)
 (mAs (u + 1 ≤ 601024 ∧ w + 6 ≤ 7293034) <|
 mNo))
 (f_L_law_b1491 K L xs lp28 (u + 1) (w + 6) v1 v2 v3 v4 v5))
 (mAs (u + 1 ≤ 601024 ∧ w + 6 ≤ 7293034) <|
 mNo)))))
 (mIf (((xs v5.toNatClampNeg) &&& 31) = 21)
 (mAs (vp_in (v5 + 1) L) <|
 mAs (vp_in (v5 + 2) L) <|
 mAs (vp_in (v5 + 3) L) <|
 mAs (vp_in (v5 + 4) L) <|
 mAs (vp_in (v5 + 5) L) <|
 mIf ((xs (v5 + 5).toNatClampNeg) = 0)
 (f_L_law_b1533 K L xs lp28 u w v1 v2 v3 v4 v5 v1 (xs (v5 + 1).toNatClampNeg) (xs (v5 + 2).toNatClampNeg) (xs (v5 + 3).toNatClampNeg) (xs (v5 + 4).toNatClampNeg) 0)
 (f_L_law_b1533 K L xs lp28 u w v1 v2 v3 v4 v5 v1 (xs (v5 + 1).toNatClampNeg) (xs (v5 + 2).toNatClampNeg) (xs (v5 + 3).toNatClampNeg) (xs (v5 + 4).toNatClampNeg) 1))
 (mIf (((xs v5.toNatClampNeg) &&& 31) = 22)
 (mAs (vp_in (v5 + 1) L) <|
 mAs (vp_in (v5 + 2) L) <|
 mAs (vp_in (v5 + 3) L) <|
 mAs (u + 1 ≤ 601024 ∧ w + 6 ≤ 7293034) <|
 f_L_takes K v1 (xs (v5 + 1).toNatClampNeg) (xs (v5 + 2).toNatClampNeg) (xs (v5 + 3).toNatClampNeg) v3 (fun r73 =>
 mAs (vp_in (v5 + 1) L) <|
 mAs (vp_in (v5 + 2) L) <|
 mAs (vp_in (v5 + 3) L) <|
 mAs (u + 1 + 1 ≤ 601024 ∧ w + 6 + 13 ≤ 7293034) <|
 mRecv v2 10 <|
 f_X9_takes K v2 (xs (v5 + 1).toNatClampNeg) (xs (v5 + 2).toNatClampNeg) (xs (v5 + 3).toNatClampNeg) (fun r74 =>
 mAs (u + 1 + 1 ≤ 601024 ∧ w + 6 + 13 ≤ 7293034) <|
 mRecv v2 10 <|
 f_X9_thrown K v2 (fun r75 =>
 mIf (r75 = r73)
 (mIf (r73 = 0)
 (mLdL K v3 0 fun x76 =>
 mIf ((lg_cmp x76 r74.toInt64) = 0)
 (f_L_law_b1712 K L xs lp28 (u + 1 + 1) (w + 6 + 13) v1 v2 v3 v4 v5)
 (mAs (u + 1 + 1 ≤ 601024 ∧ w + 6 + 13 ≤ 7293034) <|
 mNo))
 (f_L_law_b1712 K L xs lp28 (u + 1 + 1) (w + 6 + 13) v1 v2 v3 v4 v5))
 (mAs (u + 1 + 1 ≤ 601024 ∧ w + 6 + 13 ≤ 7293034) <|
 mNo)))))
 (mIf (((xs v5.toNatClampNeg) &&& 31) = 23)
 (mAs (vp_in (v5 + 1) L) <|
 mAs (u + 1 ≤ 601024 ∧ w + 6 ≤ 7293034) <|
 f_L_spot K v1 (xs (v5 + 1).toNatClampNeg) v3 (fun r77 =>
 mAs (vp_in (v5 + 1) L) <|
 mAs (u + 1 + 440 ≤ 601024 ∧ w + 6 + 4026 ≤ 7293034) <|
 mRecv v2 10 <|
 f_X9_spot K v2 (xs (v5 + 1).toNatClampNeg) (fun r78 =>
 mAs (u + 1 + 440 ≤ 601024 ∧ w + 6 + 4026 ≤ 7293034) <|
 mRecv v2 10 <|
 f_X9_thrown K v2 (fun r79 =>
 mIf (r79 = r77)
 (mIf (r77 = 0)
 (mLdL K v3 0 fun x80 =>
 mIf ((lg_cmp x80 r78.toInt64) = 0)
 (f_L_law_b1768 K L xs lp28 (u + 1 + 440) (w + 6 + 4026) v1 v2 v3 v4 v5)
 (mAs (u + 1 + 440 ≤ 601024 ∧ w + 6 + 4026 ≤ 7293034) <|
 mNo))
 (f_L_law_b1768 K L xs lp28 (u + 1 + 440) (w + 6 + 4026) v1 v2 v3 v4 v5))
 (mAs (u + 1 + 440 ≤ 601024 ∧ w + 6 + 4026 ≤ 7293034) <|
 mNo)))))
 (mIf (((xs v5.toNatClampNeg) &&& 31) = 24)
 (mAs (vp_in (v5 + 1) L) <|
 mAs (vp_in (v5 + 2) L) <|
 mAs (u + 1 ≤ 601024 ∧ w + 6 ≤ 7293034) <|
 f_L_wouldMeet K v1 (xs (v5 + 1).toNatClampNeg) (xs (v5 + 2).toNatClampNeg) v3 (fun r81 =>
 mAs (vp_in (v5 + 1) L) <|
 mAs (vp_in (v5 + 2) L) <|
 mAs (u + 1 + 20 ≤ 601024 ∧ w + 6 + 183 ≤ 7293034) <|
 mRecv v2 10 <|
 f_X9_wouldMeet K v2 (xs (v5 + 1).toNatClampNeg) (xs (v5 + 2).toNatClampNeg) (fun r82 =>
 mAs (u + 1 + 20 ≤ 601024 ∧ w + 6 + 183 ≤ 7293034) <|
 mRecv v2 10 <|
 f_X9_thrown K v2 (fun r83 =>
 mIf (r83 = r81)
 (mIf (r81 = 0)
 (mLdL K v3 0 fun x84 =>
 mIf ((lg_cmp x84 r82.toInt64) = 0)
 (f_L_law_b1836 K L xs lp28 (u + 1 + 20) (w + 6 + 183) v1 v2 v3 v4 v5)
 (mAs (u + 1 + 20 ≤ 601024 ∧ w + 6 + 183 ≤ 7293034) <|
 mNo))
 (f_L_law_b1836 K L xs lp28 (u + 1 + 20) (w + 6 + 183) v1 v2 v3 v4 v5))
 (mAs (u + 1 + 20 ≤ 601024 ∧ w + 6 + 183 ≤ 7293034) <|
 mNo)))))
 (mIf (((xs v5.toNatClampNeg) &&& 31) = 25)
 (mAs (vp_in (v5 + 1) L) <|
 mAs (u + 1 ≤ 601024 ∧ w + 6 ≤ 7293034) <|
 f_L_best K v1 (xs (v5 + 1).toNatClampNeg) v3 (fun r85 =>
 mAs (vp_in (v5 + 1) L) <|
 mAs (u + 1 ≤ 601024 ∧ w + 6 ≤ 7293034) <|
 mRecv v2 10 <|
 f_X9_best K v2 (xs (v5 + 1).toNatClampNeg) (fun r86 =>
 mAs (u + 1 ≤ 601024 ∧ w + 6 ≤ 7293034) <|
 mRecv v2 10 <|
 f_X9_thrown K v2 (fun r87 =>
 mIf (r87 = r85)
 (mIf (r85 = 0)
 (mLdL K v3 0 fun x88 =>
 mIf ((lg_cmp x88 r86.toInt64) = 0)
 (f_L_law_b1892 K L xs lp28 (u + 1) (w + 6) v1 v2 v3 v4 v5)
 (mAs (u + 1 ≤ 601024 ∧ w + 6 ≤ 7293034) <|
 mNo))
 (f_L_law_b1892 K L xs lp28 (u + 1) (w + 6) v1 v2 v3 v4 v5))
 (mAs (u + 1 ≤ 601024 ∧ w + 6 ≤ 7293034) <|
 mNo)))))
 (mIf (((xs v5.toNatClampNeg) &&& 31) = 26)
 (mAs (u + 1 ≤ 601024 ∧ w + 6 ≤ 7293034) <|
 mRecv v1 6 <|
 f_X5_digest K v1 (fun r89 =>
 mAs (u + 585 ≤ 601024 ∧ w + 5226 ≤ 7293034) <|
 mRecv v2 10 <|
 f_X9_digest K v2 (fun r90 =>
 mIf ((lg_cmp r89 r90) = 0)
 (f_L_law_b1909 K L xs lp28 (u + 585) (w + 5226) v1 v2 v3 v4 v5)
 (mAs (u + 585 ≤ 601024 ∧ w + 5226 ≤ 7293034) <|
 mNo))) (fun _ _ => False))
 (mNo)))))))))))))))))))))))))))))
def f_L_law_b28 (K : Cfg) (L : Nat) (xs : Nat → Int32) : Nat → Nat → Nat → Nat → Nat → Nat → Nat → Int32 → Mem → Prop
  | 0 => fun _ _ _ _ _ _ _ _ => False
  | n + 1 => f_L_law_b28_body K L xs (f_L_law_b28 K L xs n)
def f_L_law (K : Cfg) (L : Nat) (xs : Nat → Int32) : Mem → Prop :=
 mAs (0 + 1 ≤ 601024 ∧ 0 + 18 ≤ 7293034) <|
 mNew K 6 [.null, .int 0, .null, .int 0, .null, .null, .int 0, .int 0, .null, .null, .int 0, .int 0, .int 0, .int 0, .int 0, .int 0, .int 0, .int 0] fun x1 =>
 mAs (0 + 1 + 31 ≤ 601024 ∧ 0 + 18 + 265 ≤ 7293034) <|
 f_X5_init K x1 (
 mAs (0 + 1 + 31 + 1 ≤ 601024 ∧ 0 + 18 + 265 + 14 ≤ 7293034) <|
 mNew K 10 [.int 0, .null, .null, .null, .null, .int 0, .int 0, .int 0, .int 0, .int 0, .int 0, .int 0, .int 0, .int 0] fun x3 =>
 mAs (0 + 1 + 31 + 1 + 4 ≤ 601024 ∧ 0 + 18 + 265 + 14 + 26 ≤ 7293034) <|
 f_X9_init K x3 (
 mAs (0 + 1 + 31 + 1 + 4 + 1 ≤ 601024 ∧ 0 + 18 + 265 + 14 + 26 + 1 ≤ 7293034) <|
 mNewA K 1 (1, .inr (.inl (fun _ => 0))) fun x5 =>
 mAs (0 + 1 + 31 + 1 + 4 + 1 + 1 ≤ 601024 ∧ 0 + 18 + 265 + 14 + 26 + 1 + 1 ≤ 7293034) <|
 mNewA K 2 (1, .inr (.inr (.inr (.inl (fun _ => 0))))) fun x6 =>
 f_L_law_b28 K L xs mFuel (0 + 1 + 31 + 1 + 4 + 1 + 1) (0 + 18 + 265 + 14 + 26 + 1 + 1) x1 x3 x5 x6 0))
set_option maxHeartbeats 40000000 in
set_option maxRecDepth 100000 in
theorem law_walk {K : Cfg} {p : Program} {l : Launch} {e : Env} {s : State} {m : MethodId} {below : List Frame} {meth : Method} {c : Code} {b L : Nat} {xs : Nat → Int32} {Qf : State → Prop} (hst : l.stackTraces = false) (X : Cx K p l s m #[Value.ref b] c code 9 RL) (hX : va_X b L xs s s.heap) (hbl : b < s.heap.size) (hbA : ¬ mFA K b)
    (hend : ∀ (u w : Nat) (H : Heap) (locs : List Loc) (ls : Array Slot), mh K (fun _ => none) s.heap → va_S (mFA K) s.heap H locs → u ≤ 601024 → w ≤ 7293034 → ∀ pc : Nat, decode code pc = .ok (.ireturn, 1) → W p l e room_1 s m #[Value.ref b] below meth c H locs u w Qf (F0 m pc ls [.int 1])) (ls : Array Slot) (hl : lv_has ls 9 [(0, .ref b)]) (hP : f_L_law K L xs (fun _ => none)) : W p l e room_1 s m #[Value.ref b] below meth c s.heap [] 0 0 Qf (F0 m 0 ls []) := by
  have hx := X.1.1
  have hb := X.1.2.1
  have hS : va_S (mFA K) s.heap s.heap [] := va_S.rf
  have hM : mh K (fun _ => none) s.heap := fun a e h => nomatch h
  have hM0 := hM
  have hb1630 : ∀ (u w : Nat) (M : Mem) (H : Heap) (locs : List Loc) (ls : Array Slot), mh K M H → va_S (mFA K) s.heap H locs → lv_has ls 9 [] → f_L_law_b1630 K L xs u w M → W p l e room_1 s m #[Value.ref b] below meth c H locs u w Qf (F0 m 1630 ls []) := by
    intro u w M H locs ls hM hS hl hP
    unfold f_L_law_b1630 at hP
    refine lv_iconst (v := 0) hx hb dL_law_1630 (by decide) ?_
    exact hP.2.elim
  have hb1293 : ∀ (u w : Nat) (M : Mem) (H : Heap) (locs : List Loc) (ls : Array Slot), mh K M H → va_S (mFA K) s.heap H locs → lv_has ls 9 [] → f_L_law_b1293 K L xs u w M → W p l e room_1 s m #[Value.ref b] below meth c H locs u w Qf (F0 m 1293 ls []) := by
    intro u w M H locs ls hM hS hl hP
    unfold f_L_law_b1293 at hP
    refine lv_iconst (v := 0) hx hb dL_law_1293 (by decide) ?_
    exact hP.2.elim
  have hb1092 : ∀ (u w : Nat) (M : Mem) (H : Heap) (locs : List Loc) (ls : Array Slot), mh K M H → va_S (mFA K) s.heap H locs → lv_has ls 9 [] → f_L_law_b1092 K L xs u w M → W p l e room_1 s m #[Value.ref b] below meth c H locs u w Qf (F0 m 1092 ls []) := by
    intro u w M H locs ls hM hS hl hP
    unfold f_L_law_b1092 at hP
    refine lv_iconst (v := 0) hx hb dL_law_1092 (by decide) ?_
    exact hP.2.elim
  have hb987 : ∀ (u w : Nat) (M : Mem) (H : Heap) (locs : List Loc) (ls : Array Slot), mh K M H → va_S (mFA K) s.heap H locs → lv_has ls 9 [] → f_L_law_b987 K L xs u w M → W p l e room_1 s m #[Value.ref b] below meth c H locs u w Qf (F0 m 987 ls []) := by
    intro u w M H locs ls hM hS hl hP
    unfold f_L_law_b987 at hP
    refine lv_iconst (v := 0) hx hb dL_law_987 (by decide) ?_
    exact hP.2.elim
  have hb28 : ∀ (n28 : Nat) (u w : Nat) (v1 : Nat) (v2 : Nat) (v3 : Nat) (v4 : Nat) (v5 : Int32) (M : Mem) (H : Heap) (locs : List Loc) (ls : Array Slot), mh K M H → va_S (mFA K) s.heap H locs → lv_has ls 9 [(0, .ref b), (1, .ref v1), (2, .ref v2), (3, .ref v3), (4, .ref v4), (5, .int v5)] → f_L_law_b28 K L xs n28 u w v1 v2 v3 v4 v5 M → W p l e room_1 s m #[Value.ref b] below meth c H locs u w Qf (F0 m 28 ls []) := by
    intro n28
    induction n28 with
    | zero =>
      intro u w v1 v2 v3 v4 v5 M H locs ls hM hS hl hP
      exact hP.elim
    | succ n28 ih28 =>
      have hb1909 : ∀ (u w : Nat) (v1 : Nat) (v2 : Nat) (v3 : Nat) (v4 : Nat) (v5 : Int32) (M : Mem) (H : Heap) (locs : List Loc) (ls : Array Slot), mh K M H → va_S (mFA K) s.heap H locs → lv_has ls 9 [(0, .ref b), (1, .ref v1), (2, .ref v2), (3, .ref v3), (4, .ref v4), (5, .int v5)] → f_L_law_b1909 K L xs (f_L_law_b28 K L xs n28) u w v1 v2 v3 v4 v5 M → W p l e room_1 s m #[Value.ref b] below meth c H locs u w Qf (F0 m 1909 ls []) := by
        intro u w v1 v2 v3 v4 v5 M H locs ls hM hS hl hP
        unfold f_L_law_b1909 at hP
        refine lv_iinc (v := v5 + 6) (lv' := [(5, .int (v5 + 6)), (0, .ref b), (1, .ref v1), (2, .ref v2), (3, .ref v3), (4, .ref v4)]) hx hb dL_law_1909 hl (k := 5) rfl rfl (by decide) rfl (fun ls hl => ?_)
        refine lv_goto (tgt := 28) hx hb dL_law_1912 (by decide) ?_
        exact ih28 u w v1 v2 v3 v4 (v5 + 6) _ _ _ _ hM hS (lv_sub hl [1, 2, 3, 4, 5, 0] rfl) hP
      have hb1892 : ∀ (u w : Nat) (v1 : Nat) (v2 : Nat) (v3 : Nat) (v4 : Nat) (v5 : Int32) (M : Mem) (H : Heap) (locs : List Loc) (ls : Array Slot), mh K M H → va_S (mFA K) s.heap H locs → lv_has ls 9 [(0, .ref b), (1, .ref v1), (2, .ref v2), (3, .ref v3), (4, .ref v4), (5, .int v5)] → f_L_law_b1892 K L xs (f_L_law_b28 K L xs n28) u w v1 v2 v3 v4 v5 M → W p l e room_1 s m #[Value.ref b] below meth c H locs u w Qf (F0 m 1892 ls []) := by
        intro u w v1 v2 v3 v4 v5 M H locs ls hM hS hl hP
        unfold f_L_law_b1892 at hP
        refine lv_goto (tgt := 1909) hx hb dL_law_1892 (by decide) ?_
        exact hb1909 u w v1 v2 v3 v4 v5 _ _ _ _ hM hS (lv_sub hl [0, 1, 2, 3, 4, 5] rfl) hP
      have hb1836 : ∀ (u w : Nat) (v1 : Nat) (v2 : Nat) (v3 : Nat) (v4 : Nat) (v5 : Int32) (M : Mem) (H : Heap) (locs : List Loc) (ls : Array Slot), mh K M H → va_S (mFA K) s.heap H locs → lv_has ls 9 [(0, .ref b), (1, .ref v1), (2, .ref v2), (3, .ref v3), (4, .ref v4), (5, .int v5)] → f_L_law_b1836 K L xs (f_L_law_b28 K L xs n28) u w v1 v2 v3 v4 v5 M → W p l e room_1 s m #[Value.ref b] below meth c H locs u w Qf (F0 m 1836 ls []) := by
        intro u w v1 v2 v3 v4 v5 M H locs ls hM hS hl hP
        unfold f_L_law_b1836 at hP
        refine lv_goto (tgt := 1909) hx hb dL_law_1836 (by decide) ?_
        exact hb1909 u w v1 v2 v3 v4 v5 _ _ _ _ hM hS (lv_sub hl [0, 1, 2, 3, 4, 5] rfl) hP
      have hb1768 : ∀ (u w : Nat) (v1 : Nat) (v2 : Nat) (v3 : Nat) (v4 : Nat) (v5 : Int32) (M : Mem) (H : Heap) (locs : List Loc) (ls : Array Slot), mh K M H → va_S (mFA K) s.heap H locs → lv_has ls 9 [(0, .ref b), (1, .ref v1), (2, .ref v2), (3, .ref v3), (4, .ref v4), (5, .int v5)] → f_L_law_b1768 K L xs (f_L_law_b28 K L xs n28) u w v1 v2 v3 v4 v5 M → W p l e room_1 s m #[Value.ref b] below meth c H locs u w Qf (F0 m 1768 ls []) := by
        intro u w v1 v2 v3 v4 v5 M H locs ls hM hS hl hP
        unfold f_L_law_b1768 at hP
        refine lv_goto (tgt := 1909) hx hb dL_law_1768 (by decide) ?_
        exact hb1909 u w v1 v2 v3 v4 v5 _ _ _ _ hM hS (lv_sub hl [0, 1, 2, 3, 4, 5] rfl) hP
      have hb1712 : ∀ (u w : Nat) (v1 : Nat) (v2 : Nat) (v3 : Nat) (v4 : Nat) (v5 : Int32) (M : Mem) (H : Heap) (locs : List Loc) (ls : Array Slot), mh K M H → va_S (mFA K) s.heap H locs → lv_has ls 9 [(0, .ref b), (1, .ref v1), (2, .ref v2), (3, .ref v3), (4, .ref v4), (5, .int v5)] → f_L_law_b1712 K L xs (f_L_law_b28 K L xs n28) u w v1 v2 v3 v4 v5 M → W p l e room_1 s m #[Value.ref b] below meth c H locs u w Qf (F0 m 1712 ls []) := by
        intro u w v1 v2 v3 v4 v5 M H locs ls hM hS hl hP
        unfold f_L_law_b1712 at hP
        refine lv_goto (tgt := 1909) hx hb dL_law_1712 (by decide) ?_
        exact hb1909 u w v1 v2 v3 v4 v5 _ _ _ _ hM hS (lv_sub hl [0, 1, 2, 3, 4, 5] rfl) hP
      have hb1632 : ∀ (u w : Nat) (v1 : Nat) (v2 : Nat) (v3 : Nat) (v4 : Nat) (v5 : Int32) (M : Mem) (H : Heap) (locs : List Loc) (ls : Array Slot), mh K M H → va_S (mFA K) s.heap H locs → lv_has ls 9 [(0, .ref b), (1, .ref v1), (2, .ref v2), (3, .ref v3), (4, .ref v4), (5, .int v5)] → f_L_law_b1632 K L xs (f_L_law_b28 K L xs n28) u w v1 v2 v3 v4 v5 M → W p l e room_1 s m #[Value.ref b] below meth c H locs u w Qf (F0 m 1632 ls []) := by
        intro u w v1 v2 v3 v4 v5 M H locs ls hM hS hl hP
        unfold f_L_law_b1632 at hP
        refine lv_goto (tgt := 1909) hx hb dL_law_1632 (by decide) ?_
        exact hb1909 u w v1 v2 v3 v4 v5 _ _ _ _ hM hS (lv_sub hl [0, 1, 2, 3, 4, 5] rfl) hP
      have hb1579 : ∀ (u w : Nat) (v1 : Nat) (v2 : Nat) (v3 : Nat) (v4 : Nat) (v5 : Int32) (v6 : Int32) (t0 : Nat) (t1 : Int32) (t2 : Int32) (t3 : Int32) (t4 : Int32) (t5 : Int32) (M : Mem) (H : Heap) (locs : List Loc) (ls : Array Slot), mh K M H → va_S (mFA K) s.heap H locs → lv_has ls 9 [(0, .ref b), (1, .ref v1), (2, .ref v2), (3, .ref v3), (4, .ref v4), (5, .int v5), (6, .int v6)] → f_L_law_b1579 K L xs (f_L_law_b28 K L xs n28) u w v1 v2 v3 v4 v5 v6 t0 t1 t2 t3 t4 t5 M → W p l e room_1 s m #[Value.ref b] below meth c H locs u w Qf (F0 m 1579 ls [.int t5, .int t4, .int t3, .int t2, .int t1, .ref t0]) := by
        intro u w v1 v2 v3 v4 v5 v6 t0 t1 t2 t3 t4 t5 M H locs ls hM hS hl hP
        unfold f_L_law_b1579 at hP
        obtain ⟨hcs, hP⟩ := hP
        refine r_callVd (rest := []) (T := TX9) (N := 14) X hM hS (ct_X9_wouldLand hst t0 t1 t2 t3 t4 t5) hP mV_L_177 rfl rfl rfl hl.1 (Nat.le_of_ble_eq_true rfl) ⟨⟨by decide, by decide⟩, hcs⟩ dL_law_1579 (fun r1 M H locs hM hS hP => ?_)
        refine lv_dstore (lv' := [(7, .double r1), (0, .ref b), (1, .ref v1), (2, .ref v2), (3, .ref v3), (4, .ref v4), (5, .int v5), (6, .int v6)]) hx hb dL_law_1582 hl (by decide) rfl (fun ls hl => ?_)
        refine lv_aload_n hx hb dL_law_1584 rfl (lv_at hl 3 rfl) ?_
        obtain ⟨hcs, hP⟩ := hP
        refine r_callVi (rest := []) (T := TX9) (N := 14) X hM hS (ct_X9_thrown hst v2) hP mV_L_101 rfl rfl rfl hl.1 (Nat.le_of_ble_eq_true rfl) ⟨⟨by decide, by decide⟩, hcs⟩ dL_law_1585 (fun r2 M H locs hM hS hP => ?_)
        refine lv_iload hx hb dL_law_1588 (lv_at hl 7 rfl) ?_
        refine lv_icmp_eq (tgt := 1595) hx hb dL_law_1590 (by decide) (fun hc => ?_) (fun hc => ?_)
        · have hP := mIf_t hP hc
          refine lv_iload hx hb dL_law_1595 (lv_at hl 7 rfl) ?_
          refine lv_if_ne (tgt := 1632) hx hb dL_law_1597 (by decide) (fun hc => ?_) (fun hc => ?_)
          · have hP := mIf_f hP hc
            exact hb1632 (u + 1) (w + 13) v1 v2 v3 v4 v5 _ _ _ _ hM hS (lv_sub hl [1, 2, 3, 4, 5, 6] rfl) hP
          · have hP := mIf_t hP hc
            refine lv_aload hx hb dL_law_1600 (lv_at hl 5 rfl) ?_
            refine lv_iconst (v := 0) hx hb dL_law_1602 (by decide) ?_
            refine r_ldd X hM hP dL_law_1603 (fun x3 hP => ?_)
            refine lv_dload hx hb dL_law_1604 (lv_at hl 0 rfl) ?_
            refine lv_dcmp hx hb dL_law_1606 ?_
            refine lv_if_eq (tgt := 1632) hx hb dL_law_1607 (by decide) (fun hc => ?_) (fun hc => ?_)
            · have hP := mIf_t hP hc
              exact hb1632 (u + 1) (w + 13) v1 v2 v3 v4 v5 _ _ _ _ hM hS (lv_sub hl [1, 2, 3, 4, 5, 6] rfl) hP
            · have hP := mIf_f hP hc
              refine lv_aload hx hb dL_law_1610 (lv_at hl 5 rfl) ?_
              refine lv_iconst (v := 0) hx hb dL_law_1612 (by decide) ?_
              refine r_ldd X hM hP dL_law_1613 (fun x4 hP => ?_)
              refine lv_aload hx hb dL_law_1614 (lv_at hl 5 rfl) ?_
              refine lv_iconst (v := 0) hx hb dL_law_1616 (by decide) ?_
              refine r_ldd X hM hP dL_law_1617 (fun x5 hP => ?_)
              refine lv_dcmp hx hb dL_law_1618 ?_
              refine lv_if_eq (tgt := 1630) hx hb dL_law_1619 (by decide) (fun hc => ?_) (fun hc => ?_)
              · have hP := mIf_t hP hc
                exact hb1630 (u + 1) (w + 13) _ _ _ _ hM hS (lv_sub hl [] rfl) hP
              · have hP := mIf_f hP hc
                refine lv_dload hx hb dL_law_1622 (lv_at hl 0 rfl) ?_
                refine lv_dload hx hb dL_law_1624 (lv_at hl 0 rfl) ?_
                refine lv_dcmp hx hb dL_law_1626 ?_
                refine lv_if_ne (tgt := 1632) hx hb dL_law_1627 (by decide) (fun hc => ?_) (fun hc => ?_)
                · have hP := mIf_f hP hc
                  exact hb1632 (u + 1) (w + 13) v1 v2 v3 v4 v5 _ _ _ _ hM hS (lv_sub hl [1, 2, 3, 4, 5, 6] rfl) hP
                · have hP := mIf_t hP hc
                  exact hb1630 (u + 1) (w + 13) _ _ _ _ hM hS (lv_sub hl [] rfl) hP
        · have hP := mIf_f hP hc
          refine lv_iconst (v := 0) hx hb dL_law_1593 (by decide) ?_
          exact hP.2.elim
      have hb1533 : ∀ (u w : Nat) (v1 : Nat) (v2 : Nat) (v3 : Nat) (v4 : Nat) (v5 : Int32) (t0 : Nat) (t1 : Int32) (t2 : Int32) (t3 : Int32) (t4 : Int32) (t5 : Int32) (M : Mem) (H : Heap) (locs : List Loc) (ls : Array Slot), mh K M H → va_S (mFA K) s.heap H locs → lv_has ls 9 [(0, .ref b), (1, .ref v1), (2, .ref v2), (3, .ref v3), (4, .ref v4), (5, .int v5)] → f_L_law_b1533 K L xs (f_L_law_b28 K L xs n28) u w v1 v2 v3 v4 v5 t0 t1 t2 t3 t4 t5 M → W p l e room_1 s m #[Value.ref b] below meth c H locs u w Qf (F0 m 1533 ls [.int t5, .int t4, .int t3, .int t2, .int t1, .ref t0]) := by
        intro u w v1 v2 v3 v4 v5 t0 t1 t2 t3 t4 t5 M H locs ls hM hS hl hP
        unfold f_L_law_b1533 at hP
        refine lv_aload hx hb dL_law_1533 (lv_at hl 4 rfl) ?_
        obtain ⟨hcs, hP⟩ := hP
        refine r_callW (rest := []) X hM hS (ct_L_wouldLand hst t0 t1 t2 t3 t4 t5 v4) hP mW_L_wouldLand rfl rfl hl.1 (Nat.le_of_ble_eq_true rfl) ⟨⟨by decide, by decide⟩, hcs⟩ dL_law_1535 (fun r1 M H locs hM hS hP => ?_)
        refine lv_istore (lv' := [(6, .int r1), (0, .ref b), (1, .ref v1), (2, .ref v2), (3, .ref v3), (4, .ref v4), (5, .int v5)]) hx hb dL_law_1538 hl (by decide) rfl (fun ls hl => ?_)
        refine lv_aload_n hx hb dL_law_1540 rfl (lv_at hl 3 rfl) ?_
        refine lv_aload_n hx hb dL_law_1541 rfl (lv_at hl 1 rfl) ?_
        refine lv_iload hx hb dL_law_1542 (lv_at hl 6 rfl) ?_
        refine lv_iconst (v := 1) hx hb dL_law_1544 (by decide) ?_
        refine lv_iadd hx hb dL_law_1545 ?_
        obtain ⟨h9, hP⟩ := hP
        refine va_sld hx hb hX hbl hbA hS h9 dL_law_1546 ?_
        refine lv_aload_n hx hb dL_law_1547 rfl (lv_at hl 1 rfl) ?_
        refine lv_iload hx hb dL_law_1548 (lv_at hl 6 rfl) ?_
        refine lv_iconst (v := 2) hx hb dL_law_1550 (by decide) ?_
        refine lv_iadd hx hb dL_law_1551 ?_
        obtain ⟨h9, hP⟩ := hP
        refine va_sld hx hb hX hbl hbA hS h9 dL_law_1552 ?_
        refine lv_aload_n hx hb dL_law_1553 rfl (lv_at hl 1 rfl) ?_
        refine lv_iload hx hb dL_law_1554 (lv_at hl 6 rfl) ?_
        refine lv_iconst (v := 3) hx hb dL_law_1556 (by decide) ?_
        refine lv_iadd hx hb dL_law_1557 ?_
        obtain ⟨h9, hP⟩ := hP
        refine va_sld hx hb hX hbl hbA hS h9 dL_law_1558 ?_
        refine lv_aload_n hx hb dL_law_1559 rfl (lv_at hl 1 rfl) ?_
        refine lv_iload hx hb dL_law_1560 (lv_at hl 6 rfl) ?_
        refine lv_iconst (v := 4) hx hb dL_law_1562 (by decide) ?_
        refine lv_iadd hx hb dL_law_1563 ?_
        obtain ⟨h9, hP⟩ := hP
        refine va_sld hx hb hX hbl hbA hS h9 dL_law_1564 ?_
        refine lv_aload_n hx hb dL_law_1565 rfl (lv_at hl 1 rfl) ?_
        refine lv_iload hx hb dL_law_1566 (lv_at hl 6 rfl) ?_
        refine lv_iconst (v := 5) hx hb dL_law_1568 (by decide) ?_
        refine lv_iadd hx hb dL_law_1569 ?_
        obtain ⟨h9, hP⟩ := hP
        refine va_sld hx hb hX hbl hbA hS h9 dL_law_1570 ?_
        refine lv_if_eq (tgt := 1578) hx hb dL_law_1571 (by decide) (fun hc => ?_) (fun hc => ?_)
        · have hP := mIf_t hP hc
          refine lv_iconst (v := 0) hx hb dL_law_1578 (by decide) ?_
          exact hb1579 (u + 1) (w + 6) v1 v2 v3 v4 v5 r1 v2 (xs (v5 + 1).toNatClampNeg) (xs (v5 + 2).toNatClampNeg) (xs (v5 + 3).toNatClampNeg) (xs (v5 + 4).toNatClampNeg) 0 _ _ _ _ hM hS (lv_sub hl [1, 2, 3, 4, 5, 6, 0] rfl) hP
        · have hP := mIf_f hP hc
          refine lv_iconst (v := 1) hx hb dL_law_1574 (by decide) ?_
          refine lv_goto (tgt := 1579) hx hb dL_law_1575 (by decide) ?_
          exact hb1579 (u + 1) (w + 6) v1 v2 v3 v4 v5 r1 v2 (xs (v5 + 1).toNatClampNeg) (xs (v5 + 2).toNatClampNeg) (xs (v5 + 3).toNatClampNeg) (xs (v5 + 4).toNatClampNeg) 1 _ _ _ _ hM hS (lv_sub hl [1, 2, 3, 4, 5, 6, 0] rfl) hP
      have hb1491 : ∀ (u w : Nat) (v1 : Nat) (v2 : Nat) (v3 : Nat) (v4 : Nat) (v5 : Int32) (M : Mem) (H : Heap) (locs : List Loc) (ls : Array Slot), mh K M H → va_S (mFA K) s.heap H locs → lv_has ls 9 [(0, .ref b), (1, .ref v1), (2, .ref v2), (3, .ref v3), (4, .ref v4), (5, .int v5)] → f_L_law_b1491 K L xs (f_L_law_b28 K L xs n28) u w v1 v2 v3 v4 v5 M → W p l e room_1 s m #[Value.ref b] below meth c H locs u w Qf (F0 m 1491 ls []) := by
        intro u w v1 v2 v3 v4 v5 M H locs ls hM hS hl hP
        unfold f_L_law_b1491 at hP
        refine lv_goto (tgt := 1909) hx hb dL_law_1491 (by decide) ?_
        exact hb1909 u w v1 v2 v3 v4 v5 _ _ _ _ hM hS (lv_sub hl [0, 1, 2, 3, 4, 5] rfl) hP
      have hb1435 : ∀ (u w : Nat) (v1 : Nat) (v2 : Nat) (v3 : Nat) (v4 : Nat) (v5 : Int32) (M : Mem) (H : Heap) (locs : List Loc) (ls : Array Slot), mh K M H → va_S (mFA K) s.heap H locs → lv_has ls 9 [(0, .ref b), (1, .ref v1), (2, .ref v2), (3, .ref v3), (4, .ref v4), (5, .int v5)] → f_L_law_b1435 K L xs (f_L_law_b28 K L xs n28) u w v1 v2 v3 v4 v5 M → W p l e room_1 s m #[Value.ref b] below meth c H locs u w Qf (F0 m 1435 ls []) := by
        intro u w v1 v2 v3 v4 v5 M H locs ls hM hS hl hP
        unfold f_L_law_b1435 at hP
        refine lv_goto (tgt := 1909) hx hb dL_law_1435 (by decide) ?_
        exact hb1909 u w v1 v2 v3 v4 v5 _ _ _ _ hM hS (lv_sub hl [0, 1, 2, 3, 4, 5] rfl) hP
      have hb1379 : ∀ (u w : Nat) (v1 : Nat) (v2 : Nat) (v3 : Nat) (v4 : Nat) (v5 : Int32) (M : Mem) (H : Heap) (locs : List Loc) (ls : Array Slot), mh K M H → va_S (mFA K) s.heap H locs → lv_has ls 9 [(0, .ref b), (1, .ref v1), (2, .ref v2), (3, .ref v3), (4, .ref v4), (5, .int v5)] → f_L_law_b1379 K L xs (f_L_law_b28 K L xs n28) u w v1 v2 v3 v4 v5 M → W p l e room_1 s m #[Value.ref b] below meth c H locs u w Qf (F0 m 1379 ls []) := by
        intro u w v1 v2 v3 v4 v5 M H locs ls hM hS hl hP
        unfold f_L_law_b1379 at hP
        refine lv_goto (tgt := 1909) hx hb dL_law_1379 (by decide) ?_
        exact hb1909 u w v1 v2 v3 v4 v5 _ _ _ _ hM hS (lv_sub hl [0, 1, 2, 3, 4, 5] rfl) hP
      have hb1346 : ∀ (u w : Nat) (v1 : Nat) (v2 : Nat) (v3 : Nat) (v4 : Nat) (v5 : Int32) (v6 : Int32) (t0 : Nat) (t1 : Int32) (t2 : Int32) (M : Mem) (H : Heap) (locs : List Loc) (ls : Array Slot), mh K M H → va_S (mFA K) s.heap H locs → lv_has ls 9 [(0, .ref b), (1, .ref v1), (2, .ref v2), (3, .ref v3), (4, .ref v4), (5, .int v5), (6, .int v6)] → f_L_law_b1346 K L xs (f_L_law_b28 K L xs n28) u w v1 v2 v3 v4 v5 v6 t0 t1 t2 M → W p l e room_1 s m #[Value.ref b] below meth c H locs u w Qf (F0 m 1346 ls [.int t2, .int t1, .ref t0]) := by
        intro u w v1 v2 v3 v4 v5 v6 t0 t1 t2 M H locs ls hM hS hl hP
        unfold f_L_law_b1346 at hP
        obtain ⟨hcs, hP⟩ := hP
        refine r_callVi (rest := []) (T := TX9) (N := 14) X hM hS (ct_X9_ofWind hst t0 t1 t2) hP mV_L_167 rfl rfl rfl hl.1 (Nat.le_of_ble_eq_true rfl) ⟨⟨by decide, by decide⟩, hcs⟩ dL_law_1346 (fun r1 M H locs hM hS hP => ?_)
        refine lv_istore (lv' := [(7, .int r1), (0, .ref b), (1, .ref v1), (2, .ref v2), (3, .ref v3), (4, .ref v4), (5, .int v5), (6, .int v6)]) hx hb dL_law_1349 hl (by decide) rfl (fun ls hl => ?_)
        refine lv_aload_n hx hb dL_law_1351 rfl (lv_at hl 3 rfl) ?_
        obtain ⟨hcs, hP⟩ := hP
        refine r_callVi (rest := []) (T := TX9) (N := 14) X hM hS (ct_X9_thrown hst v2) hP mV_L_101 rfl rfl rfl hl.1 (Nat.le_of_ble_eq_true rfl) ⟨⟨by decide, by decide⟩, hcs⟩ dL_law_1352 (fun r2 M H locs hM hS hP => ?_)
        refine lv_iload hx hb dL_law_1355 (lv_at hl 7 rfl) ?_
        refine lv_icmp_eq (tgt := 1362) hx hb dL_law_1357 (by decide) (fun hc => ?_) (fun hc => ?_)
        · have hP := mIf_t hP hc
          refine lv_iload hx hb dL_law_1362 (lv_at hl 7 rfl) ?_
          refine lv_if_ne (tgt := 1379) hx hb dL_law_1364 (by decide) (fun hc => ?_) (fun hc => ?_)
          · have hP := mIf_f hP hc
            exact hb1379 u w v1 v2 v3 v4 v5 _ _ _ _ hM hS (lv_sub hl [1, 2, 3, 4, 5, 6] rfl) hP
          · have hP := mIf_t hP hc
            refine lv_aload_n hx hb dL_law_1367 rfl (lv_at hl 4 rfl) ?_
            refine lv_iconst (v := 0) hx hb dL_law_1368 (by decide) ?_
            refine r_ldl X hM hP dL_law_1369 (fun x3 hP => ?_)
            refine lv_iload hx hb dL_law_1370 (lv_at hl 0 rfl) ?_
            refine lv_i2l hx hb dL_law_1372 rfl ?_
            refine W.lcmp hx hb dL_law_1373 ?_
            refine lv_if_eq (tgt := 1379) hx hb dL_law_1374 (by decide) (fun hc => ?_) (fun hc => ?_)
            · have hP := mIf_t hP hc
              exact hb1379 u w v1 v2 v3 v4 v5 _ _ _ _ hM hS (lv_sub hl [1, 2, 3, 4, 5, 6] rfl) hP
            · have hP := mIf_f hP hc
              refine lv_iconst (v := 0) hx hb dL_law_1377 (by decide) ?_
              exact hP.2.elim
        · have hP := mIf_f hP hc
          refine lv_iconst (v := 0) hx hb dL_law_1360 (by decide) ?_
          exact hP.2.elim
      have hb1319 : ∀ (u w : Nat) (v1 : Nat) (v2 : Nat) (v3 : Nat) (v4 : Nat) (v5 : Int32) (t0 : Nat) (t1 : Int32) (t2 : Int32) (M : Mem) (H : Heap) (locs : List Loc) (ls : Array Slot), mh K M H → va_S (mFA K) s.heap H locs → lv_has ls 9 [(0, .ref b), (1, .ref v1), (2, .ref v2), (3, .ref v3), (4, .ref v4), (5, .int v5)] → f_L_law_b1319 K L xs (f_L_law_b28 K L xs n28) u w v1 v2 v3 v4 v5 t0 t1 t2 M → W p l e room_1 s m #[Value.ref b] below meth c H locs u w Qf (F0 m 1319 ls [.int t2, .int t1, .ref t0]) := by
        intro u w v1 v2 v3 v4 v5 t0 t1 t2 M H locs ls hM hS hl hP
        unfold f_L_law_b1319 at hP
        refine lv_aload_n hx hb dL_law_1319 rfl (lv_at hl 3 rfl) ?_
        obtain ⟨hcs, hP⟩ := hP
        refine r_callW (rest := []) X hM hS (ct_L_ofWind hst t0 t1 t2 v3) hP mW_L_ofWind rfl rfl hl.1 (Nat.le_of_ble_eq_true rfl) ⟨⟨by decide, by decide⟩, hcs⟩ dL_law_1320 (fun r1 M H locs hM hS hP => ?_)
        refine lv_istore (lv' := [(6, .int r1), (0, .ref b), (1, .ref v1), (2, .ref v2), (3, .ref v3), (4, .ref v4), (5, .int v5)]) hx hb dL_law_1323 hl (by decide) rfl (fun ls hl => ?_)
        refine lv_aload_n hx hb dL_law_1325 rfl (lv_at hl 3 rfl) ?_
        refine lv_aload_n hx hb dL_law_1326 rfl (lv_at hl 1 rfl) ?_
        refine lv_iload hx hb dL_law_1327 (lv_at hl 6 rfl) ?_
        refine lv_iconst (v := 1) hx hb dL_law_1329 (by decide) ?_
        refine lv_iadd hx hb dL_law_1330 ?_
        obtain ⟨h9, hP⟩ := hP
        refine va_sld hx hb hX hbl hbA hS h9 dL_law_1331 ?_
        refine lv_aload_n hx hb dL_law_1332 rfl (lv_at hl 1 rfl) ?_
        refine lv_iload hx hb dL_law_1333 (lv_at hl 6 rfl) ?_
        refine lv_iconst (v := 2) hx hb dL_law_1335 (by decide) ?_
        refine lv_iadd hx hb dL_law_1336 ?_
        obtain ⟨h9, hP⟩ := hP
        refine va_sld hx hb hX hbl hbA hS h9 dL_law_1337 ?_
        refine lv_if_eq (tgt := 1345) hx hb dL_law_1338 (by decide) (fun hc => ?_) (fun hc => ?_)
        · have hP := mIf_t hP hc
          refine lv_iconst (v := 0) hx hb dL_law_1345 (by decide) ?_
          exact hb1346 (u + 1) (w + 6) v1 v2 v3 v4 v5 r1 v2 (xs (v5 + 1).toNatClampNeg) 0 _ _ _ _ hM hS (lv_sub hl [1, 2, 3, 4, 5, 6, 0] rfl) hP
        · have hP := mIf_f hP hc
          refine lv_iconst (v := 1) hx hb dL_law_1341 (by decide) ?_
          refine lv_goto (tgt := 1346) hx hb dL_law_1342 (by decide) ?_
          exact hb1346 (u + 1) (w + 6) v1 v2 v3 v4 v5 r1 v2 (xs (v5 + 1).toNatClampNeg) 1 _ _ _ _ hM hS (lv_sub hl [1, 2, 3, 4, 5, 6, 0] rfl) hP
      have hb1295 : ∀ (u w : Nat) (v1 : Nat) (v2 : Nat) (v3 : Nat) (v4 : Nat) (v5 : Int32) (M : Mem) (H : Heap) (locs : List Loc) (ls : Array Slot), mh K M H → va_S (mFA K) s.heap H locs → lv_has ls 9 [(0, .ref b), (1, .ref v1), (2, .ref v2), (3, .ref v3), (4, .ref v4), (5, .int v5)] → f_L_law_b1295 K L xs (f_L_law_b28 K L xs n28) u w v1 v2 v3 v4 v5 M → W p l e room_1 s m #[Value.ref b] below meth c H locs u w Qf (F0 m 1295 ls []) := by
        intro u w v1 v2 v3 v4 v5 M H locs ls hM hS hl hP
        unfold f_L_law_b1295 at hP
        refine lv_goto (tgt := 1909) hx hb dL_law_1295 (by decide) ?_
        exact hb1909 u w v1 v2 v3 v4 v5 _ _ _ _ hM hS (lv_sub hl [0, 1, 2, 3, 4, 5] rfl) hP
      have hb1218 : ∀ (u w : Nat) (v1 : Nat) (v2 : Nat) (v3 : Nat) (v4 : Nat) (v5 : Int32) (M : Mem) (H : Heap) (locs : List Loc) (ls : Array Slot), mh K M H → va_S (mFA K) s.heap H locs → lv_has ls 9 [(0, .ref b), (1, .ref v1), (2, .ref v2), (3, .ref v3), (4, .ref v4), (5, .int v5)] → f_L_law_b1218 K L xs (f_L_law_b28 K L xs n28) u w v1 v2 v3 v4 v5 M → W p l e room_1 s m #[Value.ref b] below meth c H locs u w Qf (F0 m 1218 ls []) := by
        intro u w v1 v2 v3 v4 v5 M H locs ls hM hS hl hP
        unfold f_L_law_b1218 at hP
        refine lv_goto (tgt := 1909) hx hb dL_law_1218 (by decide) ?_
        exact hb1909 u w v1 v2 v3 v4 v5 _ _ _ _ hM hS (lv_sub hl [0, 1, 2, 3, 4, 5] rfl) hP
      have hb1150 : ∀ (u w : Nat) (v1 : Nat) (v2 : Nat) (v3 : Nat) (v4 : Nat) (v5 : Int32) (M : Mem) (H : Heap) (locs : List Loc) (ls : Array Slot), mh K M H → va_S (mFA K) s.heap H locs → lv_has ls 9 [(0, .ref b), (1, .ref v1), (2, .ref v2), (3, .ref v3), (4, .ref v4), (5, .int v5)] → f_L_law_b1150 K L xs (f_L_law_b28 K L xs n28) u w v1 v2 v3 v4 v5 M → W p l e room_1 s m #[Value.ref b] below meth c H locs u w Qf (F0 m 1150 ls []) := by
        intro u w v1 v2 v3 v4 v5 M H locs ls hM hS hl hP
        unfold f_L_law_b1150 at hP
        refine lv_goto (tgt := 1909) hx hb dL_law_1150 (by decide) ?_
        exact hb1909 u w v1 v2 v3 v4 v5 _ _ _ _ hM hS (lv_sub hl [0, 1, 2, 3, 4, 5] rfl) hP
      have hb1094 : ∀ (u w : Nat) (v1 : Nat) (v2 : Nat) (v3 : Nat) (v4 : Nat) (v5 : Int32) (M : Mem) (H : Heap) (locs : List Loc) (ls : Array Slot), mh K M H → va_S (mFA K) s.heap H locs → lv_has ls 9 [(0, .ref b), (1, .ref v1), (2, .ref v2), (3, .ref v3), (4, .ref v4), (5, .int v5)] → f_L_law_b1094 K L xs (f_L_law_b28 K L xs n28) u w v1 v2 v3 v4 v5 M → W p l e room_1 s m #[Value.ref b] below meth c H locs u w Qf (F0 m 1094 ls []) := by
        intro u w v1 v2 v3 v4 v5 M H locs ls hM hS hl hP
        unfold f_L_law_b1094 at hP
        refine lv_goto (tgt := 1909) hx hb dL_law_1094 (by decide) ?_
        exact hb1909 u w v1 v2 v3 v4 v5 _ _ _ _ hM hS (lv_sub hl [0, 1, 2, 3, 4, 5] rfl) hP
      have hb1041 : ∀ (u w : Nat) (v1 : Nat) (v2 : Nat) (v3 : Nat) (v4 : Nat) (v5 : Int32) (v6 : Int32) (t0 : Nat) (t1 : Int32) (t2 : Int32) (M : Mem) (H : Heap) (locs : List Loc) (ls : Array Slot), mh K M H → va_S (mFA K) s.heap H locs → lv_has ls 9 [(0, .ref b), (1, .ref v1), (2, .ref v2), (3, .ref v3), (4, .ref v4), (5, .int v5), (6, .int v6)] → f_L_law_b1041 K L xs (f_L_law_b28 K L xs n28) u w v1 v2 v3 v4 v5 v6 t0 t1 t2 M → W p l e room_1 s m #[Value.ref b] below meth c H locs u w Qf (F0 m 1041 ls [.int t2, .int t1, .ref t0]) := by
        intro u w v1 v2 v3 v4 v5 v6 t0 t1 t2 M H locs ls hM hS hl hP
        unfold f_L_law_b1041 at hP
        obtain ⟨hcs, hP⟩ := hP
        refine r_callVd (rest := []) (T := TX9) (N := 14) X hM hS (ct_X9_landed hst t0 t1 t2) hP mV_L_154 rfl rfl rfl hl.1 (Nat.le_of_ble_eq_true rfl) ⟨⟨by decide, by decide⟩, hcs⟩ dL_law_1041 (fun r1 M H locs hM hS hP => ?_)
        refine lv_dstore (lv' := [(7, .double r1), (0, .ref b), (1, .ref v1), (2, .ref v2), (3, .ref v3), (4, .ref v4), (5, .int v5), (6, .int v6)]) hx hb dL_law_1044 hl (by decide) rfl (fun ls hl => ?_)
        refine lv_aload_n hx hb dL_law_1046 rfl (lv_at hl 3 rfl) ?_
        obtain ⟨hcs, hP⟩ := hP
        refine r_callVi (rest := []) (T := TX9) (N := 14) X hM hS (ct_X9_thrown hst v2) hP mV_L_101 rfl rfl rfl hl.1 (Nat.le_of_ble_eq_true rfl) ⟨⟨by decide, by decide⟩, hcs⟩ dL_law_1047 (fun r2 M H locs hM hS hP => ?_)
        refine lv_iload hx hb dL_law_1050 (lv_at hl 7 rfl) ?_
        refine lv_icmp_eq (tgt := 1057) hx hb dL_law_1052 (by decide) (fun hc => ?_) (fun hc => ?_)
        · have hP := mIf_t hP hc
          refine lv_iload hx hb dL_law_1057 (lv_at hl 7 rfl) ?_
          refine lv_if_ne (tgt := 1094) hx hb dL_law_1059 (by decide) (fun hc => ?_) (fun hc => ?_)
          · have hP := mIf_f hP hc
            exact hb1094 u w v1 v2 v3 v4 v5 _ _ _ _ hM hS (lv_sub hl [1, 2, 3, 4, 5, 6] rfl) hP
          · have hP := mIf_t hP hc
            refine lv_aload hx hb dL_law_1062 (lv_at hl 5 rfl) ?_
            refine lv_iconst (v := 0) hx hb dL_law_1064 (by decide) ?_
            refine r_ldd X hM hP dL_law_1065 (fun x3 hP => ?_)
            refine lv_dload hx hb dL_law_1066 (lv_at hl 0 rfl) ?_
            refine lv_dcmp hx hb dL_law_1068 ?_
            refine lv_if_eq (tgt := 1094) hx hb dL_law_1069 (by decide) (fun hc => ?_) (fun hc => ?_)
            · have hP := mIf_t hP hc
              exact hb1094 u w v1 v2 v3 v4 v5 _ _ _ _ hM hS (lv_sub hl [1, 2, 3, 4, 5, 6] rfl) hP
            · have hP := mIf_f hP hc
              refine lv_aload hx hb dL_law_1072 (lv_at hl 5 rfl) ?_
              refine lv_iconst (v := 0) hx hb dL_law_1074 (by decide) ?_
              refine r_ldd X hM hP dL_law_1075 (fun x4 hP => ?_)
              refine lv_aload hx hb dL_law_1076 (lv_at hl 5 rfl) ?_
              refine lv_iconst (v := 0) hx hb dL_law_1078 (by decide) ?_
              refine r_ldd X hM hP dL_law_1079 (fun x5 hP => ?_)
              refine lv_dcmp hx hb dL_law_1080 ?_
              refine lv_if_eq (tgt := 1092) hx hb dL_law_1081 (by decide) (fun hc => ?_) (fun hc => ?_)
              · have hP := mIf_t hP hc
                exact hb1092 u w _ _ _ _ hM hS (lv_sub hl [] rfl) hP
              · have hP := mIf_f hP hc
                refine lv_dload hx hb dL_law_1084 (lv_at hl 0 rfl) ?_
                refine lv_dload hx hb dL_law_1086 (lv_at hl 0 rfl) ?_
                refine lv_dcmp hx hb dL_law_1088 ?_
                refine lv_if_ne (tgt := 1094) hx hb dL_law_1089 (by decide) (fun hc => ?_) (fun hc => ?_)
                · have hP := mIf_f hP hc
                  exact hb1094 u w v1 v2 v3 v4 v5 _ _ _ _ hM hS (lv_sub hl [1, 2, 3, 4, 5, 6] rfl) hP
                · have hP := mIf_t hP hc
                  exact hb1092 u w _ _ _ _ hM hS (lv_sub hl [] rfl) hP
        · have hP := mIf_f hP hc
          refine lv_iconst (v := 0) hx hb dL_law_1055 (by decide) ?_
          exact hP.2.elim
      have hb1013 : ∀ (u w : Nat) (v1 : Nat) (v2 : Nat) (v3 : Nat) (v4 : Nat) (v5 : Int32) (t0 : Nat) (t1 : Int32) (t2 : Int32) (M : Mem) (H : Heap) (locs : List Loc) (ls : Array Slot), mh K M H → va_S (mFA K) s.heap H locs → lv_has ls 9 [(0, .ref b), (1, .ref v1), (2, .ref v2), (3, .ref v3), (4, .ref v4), (5, .int v5)] → f_L_law_b1013 K L xs (f_L_law_b28 K L xs n28) u w v1 v2 v3 v4 v5 t0 t1 t2 M → W p l e room_1 s m #[Value.ref b] below meth c H locs u w Qf (F0 m 1013 ls [.int t2, .int t1, .ref t0]) := by
        intro u w v1 v2 v3 v4 v5 t0 t1 t2 M H locs ls hM hS hl hP
        unfold f_L_law_b1013 at hP
        refine lv_aload hx hb dL_law_1013 (lv_at hl 4 rfl) ?_
        obtain ⟨hcs, hP⟩ := hP
        refine r_callW (rest := []) X hM hS (ct_L_landed hst t0 t1 t2 v4) hP mW_L_landed rfl rfl hl.1 (Nat.le_of_ble_eq_true rfl) ⟨⟨by decide, by decide⟩, hcs⟩ dL_law_1015 (fun r1 M H locs hM hS hP => ?_)
        refine lv_istore (lv' := [(6, .int r1), (0, .ref b), (1, .ref v1), (2, .ref v2), (3, .ref v3), (4, .ref v4), (5, .int v5)]) hx hb dL_law_1018 hl (by decide) rfl (fun ls hl => ?_)
        refine lv_aload_n hx hb dL_law_1020 rfl (lv_at hl 3 rfl) ?_
        refine lv_aload_n hx hb dL_law_1021 rfl (lv_at hl 1 rfl) ?_
        refine lv_iload hx hb dL_law_1022 (lv_at hl 6 rfl) ?_
        refine lv_iconst (v := 1) hx hb dL_law_1024 (by decide) ?_
        refine lv_iadd hx hb dL_law_1025 ?_
        obtain ⟨h9, hP⟩ := hP
        refine va_sld hx hb hX hbl hbA hS h9 dL_law_1026 ?_
        refine lv_aload_n hx hb dL_law_1027 rfl (lv_at hl 1 rfl) ?_
        refine lv_iload hx hb dL_law_1028 (lv_at hl 6 rfl) ?_
        refine lv_iconst (v := 2) hx hb dL_law_1030 (by decide) ?_
        refine lv_iadd hx hb dL_law_1031 ?_
        obtain ⟨h9, hP⟩ := hP
        refine va_sld hx hb hX hbl hbA hS h9 dL_law_1032 ?_
        refine lv_if_eq (tgt := 1040) hx hb dL_law_1033 (by decide) (fun hc => ?_) (fun hc => ?_)
        · have hP := mIf_t hP hc
          refine lv_iconst (v := 0) hx hb dL_law_1040 (by decide) ?_
          exact hb1041 (u + 1) (w + 6) v1 v2 v3 v4 v5 r1 v2 (xs (v5 + 1).toNatClampNeg) 0 _ _ _ _ hM hS (lv_sub hl [1, 2, 3, 4, 5, 6, 0] rfl) hP
        · have hP := mIf_f hP hc
          refine lv_iconst (v := 1) hx hb dL_law_1036 (by decide) ?_
          refine lv_goto (tgt := 1041) hx hb dL_law_1037 (by decide) ?_
          exact hb1041 (u + 1) (w + 6) v1 v2 v3 v4 v5 r1 v2 (xs (v5 + 1).toNatClampNeg) 1 _ _ _ _ hM hS (lv_sub hl [1, 2, 3, 4, 5, 6, 0] rfl) hP
      have hb989 : ∀ (u w : Nat) (v1 : Nat) (v2 : Nat) (v3 : Nat) (v4 : Nat) (v5 : Int32) (M : Mem) (H : Heap) (locs : List Loc) (ls : Array Slot), mh K M H → va_S (mFA K) s.heap H locs → lv_has ls 9 [(0, .ref b), (1, .ref v1), (2, .ref v2), (3, .ref v3), (4, .ref v4), (5, .int v5)] → f_L_law_b989 K L xs (f_L_law_b28 K L xs n28) u w v1 v2 v3 v4 v5 M → W p l e room_1 s m #[Value.ref b] below meth c H locs u w Qf (F0 m 989 ls []) := by
        intro u w v1 v2 v3 v4 v5 M H locs ls hM hS hl hP
        unfold f_L_law_b989 at hP
        refine lv_goto (tgt := 1909) hx hb dL_law_989 (by decide) ?_
        exact hb1909 u w v1 v2 v3 v4 v5 _ _ _ _ hM hS (lv_sub hl [0, 1, 2, 3, 4, 5] rfl) hP
      have hb912 : ∀ (u w : Nat) (v1 : Nat) (v2 : Nat) (v3 : Nat) (v4 : Nat) (v5 : Int32) (M : Mem) (H : Heap) (locs : List Loc) (ls : Array Slot), mh K M H → va_S (mFA K) s.heap H locs → lv_has ls 9 [(0, .ref b), (1, .ref v1), (2, .ref v2), (3, .ref v3), (4, .ref v4), (5, .int v5)] → f_L_law_b912 K L xs (f_L_law_b28 K L xs n28) u w v1 v2 v3 v4 v5 M → W p l e room_1 s m #[Value.ref b] below meth c H locs u w Qf (F0 m 912 ls []) := by
        intro u w v1 v2 v3 v4 v5 M H locs ls hM hS hl hP
        unfold f_L_law_b912 at hP
        refine lv_goto (tgt := 1909) hx hb dL_law_912 (by decide) ?_
        exact hb1909 u w v1 v2 v3 v4 v5 _ _ _ _ hM hS (lv_sub hl [0, 1, 2, 3, 4, 5] rfl) hP
      have hb826 : ∀ (u w : Nat) (v1 : Nat) (v2 : Nat) (v3 : Nat) (v4 : Nat) (v5 : Int32) (t0 : Int32) (t1 : Nat) (t2 : Int32) (M : Mem) (H : Heap) (locs : List Loc) (ls : Array Slot), mh K M H → va_S (mFA K) s.heap H locs → lv_has ls 9 [(0, .ref b), (1, .ref v1), (2, .ref v2), (3, .ref v3), (4, .ref v4), (5, .int v5)] → f_L_law_b826 K L xs (f_L_law_b28 K L xs n28) u w v1 v2 v3 v4 v5 t0 t1 t2 M → W p l e room_1 s m #[Value.ref b] below meth c H locs u w Qf (F0 m 826 ls [.int t2, .ref t1, .int t0]) := by
        intro u w v1 v2 v3 v4 v5 t0 t1 t2 M H locs ls hM hS hl hP
        unfold f_L_law_b826 at hP
        obtain ⟨hcs, hP⟩ := hP
        refine r_callVi (rest := [.int t0]) (T := TX9) (N := 14) X hM hS (ct_X9_hold hst t1 t2) hP mV_L_139 rfl rfl rfl hl.1 (Nat.le_of_ble_eq_true rfl) ⟨⟨by decide, by decide⟩, hcs⟩ dL_law_826 (fun r1 M H locs hM hS hP => ?_)
        refine lv_icmp_eq (tgt := 1909) hx hb dL_law_829 (by decide) (fun hc => ?_) (fun hc => ?_)
        · have hP := mIf_t hP hc
          exact hb1909 u w v1 v2 v3 v4 v5 _ _ _ _ hM hS (lv_sub hl [0, 1, 2, 3, 4, 5] rfl) hP
        · have hP := mIf_f hP hc
          refine lv_iconst (v := 0) hx hb dL_law_832 (by decide) ?_
          exact hP.2.elim
      have hb808 : ∀ (u w : Nat) (v1 : Nat) (v2 : Nat) (v3 : Nat) (v4 : Nat) (v5 : Int32) (t0 : Nat) (t1 : Int32) (M : Mem) (H : Heap) (locs : List Loc) (ls : Array Slot), mh K M H → va_S (mFA K) s.heap H locs → lv_has ls 9 [(0, .ref b), (1, .ref v1), (2, .ref v2), (3, .ref v3), (4, .ref v4), (5, .int v5)] → f_L_law_b808 K L xs (f_L_law_b28 K L xs n28) u w v1 v2 v3 v4 v5 t0 t1 M → W p l e room_1 s m #[Value.ref b] below meth c H locs u w Qf (F0 m 808 ls [.int t1, .ref t0]) := by
        intro u w v1 v2 v3 v4 v5 t0 t1 M H locs ls hM hS hl hP
        unfold f_L_law_b808 at hP
        obtain ⟨hcs, hP⟩ := hP
        refine r_callVi (rest := []) (T := TX5) (N := 18) X hM hS (ct_X5_hold hst t0 t1) hP mV_L_135 rfl rfl rfl hl.1 (Nat.le_of_ble_eq_true rfl) ⟨⟨by decide, by decide⟩, hcs⟩ dL_law_808 (fun r1 M H locs hM hS hP => ?_)
        refine lv_aload_n hx hb dL_law_811 rfl (lv_at hl 2 rfl) ?_
        refine lv_aload_n hx hb dL_law_812 rfl (lv_at hl 0 rfl) ?_
        refine lv_iload hx hb dL_law_813 (lv_at hl 5 rfl) ?_
        refine lv_iconst (v := 1) hx hb dL_law_815 (by decide) ?_
        refine lv_iadd hx hb dL_law_816 ?_
        obtain ⟨h9, hP⟩ := hP
        refine va_sld hx hb hX hbl hbA hS h9 dL_law_817 ?_
        refine lv_if_eq (tgt := 825) hx hb dL_law_818 (by decide) (fun hc => ?_) (fun hc => ?_)
        · have hP := mIf_t hP hc
          refine lv_iconst (v := 0) hx hb dL_law_825 (by decide) ?_
          exact hb826 u w v1 v2 v3 v4 v5 r1 v2 0 _ _ _ _ hM hS (lv_sub hl [0, 1, 2, 3, 4, 5] rfl) hP
        · have hP := mIf_f hP hc
          refine lv_iconst (v := 1) hx hb dL_law_821 (by decide) ?_
          refine lv_goto (tgt := 826) hx hb dL_law_822 (by decide) ?_
          exact hb826 u w v1 v2 v3 v4 v5 r1 v2 1 _ _ _ _ hM hS (lv_sub hl [0, 1, 2, 3, 4, 5] rfl) hP
      have hb790 : ∀ (u w : Nat) (v1 : Nat) (v2 : Nat) (v3 : Nat) (v4 : Nat) (v5 : Int32) (M : Mem) (H : Heap) (locs : List Loc) (ls : Array Slot), mh K M H → va_S (mFA K) s.heap H locs → lv_has ls 9 [(0, .ref b), (1, .ref v1), (2, .ref v2), (3, .ref v3), (4, .ref v4), (5, .int v5)] → f_L_law_b790 K L xs (f_L_law_b28 K L xs n28) u w v1 v2 v3 v4 v5 M → W p l e room_1 s m #[Value.ref b] below meth c H locs u w Qf (F0 m 790 ls []) := by
        intro u w v1 v2 v3 v4 v5 M H locs ls hM hS hl hP
        unfold f_L_law_b790 at hP
        refine lv_goto (tgt := 1909) hx hb dL_law_790 (by decide) ?_
        exact hb1909 u w v1 v2 v3 v4 v5 _ _ _ _ hM hS (lv_sub hl [0, 1, 2, 3, 4, 5] rfl) hP
      have hb709 : ∀ (u w : Nat) (v1 : Nat) (v2 : Nat) (v3 : Nat) (v4 : Nat) (v5 : Int32) (M : Mem) (H : Heap) (locs : List Loc) (ls : Array Slot), mh K M H → va_S (mFA K) s.heap H locs → lv_has ls 9 [(0, .ref b), (1, .ref v1), (2, .ref v2), (3, .ref v3), (4, .ref v4), (5, .int v5)] → f_L_law_b709 K L xs (f_L_law_b28 K L xs n28) u w v1 v2 v3 v4 v5 M → W p l e room_1 s m #[Value.ref b] below meth c H locs u w Qf (F0 m 709 ls []) := by
        intro u w v1 v2 v3 v4 v5 M H locs ls hM hS hl hP
        unfold f_L_law_b709 at hP
        refine lv_goto (tgt := 1909) hx hb dL_law_709 (by decide) ?_
        exact hb1909 u w v1 v2 v3 v4 v5 _ _ _ _ hM hS (lv_sub hl [0, 1, 2, 3, 4, 5] rfl) hP
      have hb629 : ∀ (u w : Nat) (v1 : Nat) (v2 : Nat) (v3 : Nat) (v4 : Nat) (v5 : Int32) (M : Mem) (H : Heap) (locs : List Loc) (ls : Array Slot), mh K M H → va_S (mFA K) s.heap H locs → lv_has ls 9 [(0, .ref b), (1, .ref v1), (2, .ref v2), (3, .ref v3), (4, .ref v4), (5, .int v5)] → f_L_law_b629 K L xs (f_L_law_b28 K L xs n28) u w v1 v2 v3 v4 v5 M → W p l e room_1 s m #[Value.ref b] below meth c H locs u w Qf (F0 m 629 ls []) := by
        intro u w v1 v2 v3 v4 v5 M H locs ls hM hS hl hP
        unfold f_L_law_b629 at hP
        refine lv_goto (tgt := 1909) hx hb dL_law_629 (by decide) ?_
        exact hb1909 u w v1 v2 v3 v4 v5 _ _ _ _ hM hS (lv_sub hl [0, 1, 2, 3, 4, 5] rfl) hP
      have hb549 : ∀ (u w : Nat) (v1 : Nat) (v2 : Nat) (v3 : Nat) (v4 : Nat) (v5 : Int32) (M : Mem) (H : Heap) (locs : List Loc) (ls : Array Slot), mh K M H → va_S (mFA K) s.heap H locs → lv_has ls 9 [(0, .ref b), (1, .ref v1), (2, .ref v2), (3, .ref v3), (4, .ref v4), (5, .int v5)] → f_L_law_b549 K L xs (f_L_law_b28 K L xs n28) u w v1 v2 v3 v4 v5 M → W p l e room_1 s m #[Value.ref b] below meth c H locs u w Qf (F0 m 549 ls []) := by
        intro u w v1 v2 v3 v4 v5 M H locs ls hM hS hl hP
        unfold f_L_law_b549 at hP
        refine lv_goto (tgt := 1909) hx hb dL_law_549 (by decide) ?_
        exact hb1909 u w v1 v2 v3 v4 v5 _ _ _ _ hM hS (lv_sub hl [0, 1, 2, 3, 4, 5] rfl) hP
      have hb493 : ∀ (u w : Nat) (v1 : Nat) (v2 : Nat) (v3 : Nat) (v4 : Nat) (v5 : Int32) (M : Mem) (H : Heap) (locs : List Loc) (ls : Array Slot), mh K M H → va_S (mFA K) s.heap H locs → lv_has ls 9 [(0, .ref b), (1, .ref v1), (2, .ref v2), (3, .ref v3), (4, .ref v4), (5, .int v5)] → f_L_law_b493 K L xs (f_L_law_b28 K L xs n28) u w v1 v2 v3 v4 v5 M → W p l e room_1 s m #[Value.ref b] below meth c H locs u w Qf (F0 m 493 ls []) := by
        intro u w v1 v2 v3 v4 v5 M H locs ls hM hS hl hP
        unfold f_L_law_b493 at hP
        refine lv_goto (tgt := 1909) hx hb dL_law_493 (by decide) ?_
        exact hb1909 u w v1 v2 v3 v4 v5 _ _ _ _ hM hS (lv_sub hl [0, 1, 2, 3, 4, 5] rfl) hP
      have hb437 : ∀ (u w : Nat) (v1 : Nat) (v2 : Nat) (v3 : Nat) (v4 : Nat) (v5 : Int32) (M : Mem) (H : Heap) (locs : List Loc) (ls : Array Slot), mh K M H → va_S (mFA K) s.heap H locs → lv_has ls 9 [(0, .ref b), (1, .ref v1), (2, .ref v2), (3, .ref v3), (4, .ref v4), (5, .int v5)] → f_L_law_b437 K L xs (f_L_law_b28 K L xs n28) u w v1 v2 v3 v4 v5 M → W p l e room_1 s m #[Value.ref b] below meth c H locs u w Qf (F0 m 437 ls []) := by
        intro u w v1 v2 v3 v4 v5 M H locs ls hM hS hl hP
        unfold f_L_law_b437 at hP
        refine lv_goto (tgt := 1909) hx hb dL_law_437 (by decide) ?_
        exact hb1909 u w v1 v2 v3 v4 v5 _ _ _ _ hM hS (lv_sub hl [0, 1, 2, 3, 4, 5] rfl) hP
      have hb369 : ∀ (u w : Nat) (v1 : Nat) (v2 : Nat) (v3 : Nat) (v4 : Nat) (v5 : Int32) (M : Mem) (H : Heap) (locs : List Loc) (ls : Array Slot), mh K M H → va_S (mFA K) s.heap H locs → lv_has ls 9 [(0, .ref b), (1, .ref v1), (2, .ref v2), (3, .ref v3), (4, .ref v4), (5, .int v5)] → f_L_law_b369 K L xs (f_L_law_b28 K L xs n28) u w v1 v2 v3 v4 v5 M → W p l e room_1 s m #[Value.ref b] below meth c H locs u w Qf (F0 m 369 ls []) := by
        intro u w v1 v2 v3 v4 v5 M H locs ls hM hS hl hP
        unfold f_L_law_b369 at hP
        refine lv_goto (tgt := 1909) hx hb dL_law_369 (by decide) ?_
        exact hb1909 u w v1 v2 v3 v4 v5 _ _ _ _ hM hS (lv_sub hl [0, 1, 2, 3, 4, 5] rfl) hP
      have hb301 : ∀ (u w : Nat) (v1 : Nat) (v2 : Nat) (v3 : Nat) (v4 : Nat) (v5 : Int32) (M : Mem) (H : Heap) (locs : List Loc) (ls : Array Slot), mh K M H → va_S (mFA K) s.heap H locs → lv_has ls 9 [(0, .ref b), (1, .ref v1), (2, .ref v2), (3, .ref v3), (4, .ref v4), (5, .int v5)] → f_L_law_b301 K L xs (f_L_law_b28 K L xs n28) u w v1 v2 v3 v4 v5 M → W p l e room_1 s m #[Value.ref b] below meth c H locs u w Qf (F0 m 301 ls []) := by
        intro u w v1 v2 v3 v4 v5 M H locs ls hM hS hl hP
        unfold f_L_law_b301 at hP
        refine lv_goto (tgt := 1909) hx hb dL_law_301 (by decide) ?_
        exact hb1909 u w v1 v2 v3 v4 v5 _ _ _ _ hM hS (lv_sub hl [0, 1, 2, 3, 4, 5] rfl) hP
      have hb233 : ∀ (u w : Nat) (v1 : Nat) (v2 : Nat) (v3 : Nat) (v4 : Nat) (v5 : Int32) (M : Mem) (H : Heap) (locs : List Loc) (ls : Array Slot), mh K M H → va_S (mFA K) s.heap H locs → lv_has ls 9 [(0, .ref b), (1, .ref v1), (2, .ref v2), (3, .ref v3), (4, .ref v4), (5, .int v5)] → f_L_law_b233 K L xs (f_L_law_b28 K L xs n28) u w v1 v2 v3 v4 v5 M → W p l e room_1 s m #[Value.ref b] below meth c H locs u w Qf (F0 m 233 ls []) := by
        intro u w v1 v2 v3 v4 v5 M H locs ls hM hS hl hP
        unfold f_L_law_b233 at hP
        refine lv_goto (tgt := 1909) hx hb dL_law_233 (by decide) ?_
        exact hb1909 u w v1 v2 v3 v4 v5 _ _ _ _ hM hS (lv_sub hl [0, 1, 2, 3, 4, 5] rfl) hP
      intro u w v1 v2 v3 v4 v5 M H locs ls hM hS hl hP
      have hP : f_L_law_b28_body K L xs (f_L_law_b28 K L xs n28) u w v1 v2 v3 v4 v5 M := hP
      unfold f_L_law_b28_body at hP
      refine lv_iload hx hb dL_law_28 (lv_at hl 5 rfl) ?_
      refine lv_aload_n hx hb dL_law_30 rfl (lv_at hl 0 rfl) ?_
      refine va_slen hx hb hX hbl hbA hS dL_law_31 ?_
      refine lv_bipush (v := 6) hx hb dL_law_32 (by decide) ?_
      refine lv_isub hx hb dL_law_34 ?_
      refine lv_icmp_gt (tgt := 1915) hx hb dL_law_35 (by decide) (fun hc => ?_) (fun hc => ?_)
      · have hP := mIf_t hP hc
        refine lv_iconst (v := 1) hx hb dL_law_1915 (by decide) ?_
        obtain ⟨⟨h97, h98⟩, hP⟩ := hP
        exact hend u w _ _ _ hM0 hS h97 h98 _ dL_law_1916
      · have hP := mIf_f hP hc
        refine lv_aload_n hx hb dL_law_38 rfl (lv_at hl 0 rfl) ?_
        refine lv_iload hx hb dL_law_39 (lv_at hl 5 rfl) ?_
        obtain ⟨h9, hP⟩ := hP
        refine va_sld hx hb hX hbl hbA hS h9 dL_law_41 ?_
        refine lv_bipush (v := 31) hx hb dL_law_42 (by decide) ?_
        refine lv_iand hx hb dL_law_44 ?_
        by_cases hc : ((xs v5.toNatClampNeg) &&& 31).toInt < 0 ∨ 26 < ((xs v5.toNatClampNeg) &&& 31).toInt
        · have hP := mIf_t hP hc
          refine lv_tableOut (tgt := 1909) hx hb dL_law_45 hc (by decide) ?_
          exact hb1909 u w v1 v2 v3 v4 v5 _ _ _ _ hM hS (lv_sub hl [0, 1, 2, 3, 4, 5] rfl) hP
        · have hP := mIf_f hP hc
          by_cases hv : ((xs v5.toNatClampNeg) &&& 31) = 0
          · have hP := mIf_t hP hv
            refine lv_tableIn (off := 123) (tgt := 168) hx hb dL_law_45 (by rw [hv]; decide) (by rw [hv]; decide) (by rw [hv]; decide) (by decide) ?_
            refine lv_aload_n hx hb dL_law_168 rfl (lv_at hl 1 rfl) ?_
            refine lv_aload_n hx hb dL_law_169 rfl (lv_at hl 0 rfl) ?_
            refine lv_iload hx hb dL_law_170 (lv_at hl 5 rfl) ?_
            refine lv_iconst (v := 1) hx hb dL_law_172 (by decide) ?_
            refine lv_iadd hx hb dL_law_173 ?_
            obtain ⟨h9, hP⟩ := hP
            refine va_sld hx hb hX hbl hbA hS h9 dL_law_174 ?_
            refine lv_aload_n hx hb dL_law_175 rfl (lv_at hl 0 rfl) ?_
            refine lv_iload hx hb dL_law_176 (lv_at hl 5 rfl) ?_
            refine lv_iconst (v := 2) hx hb dL_law_178 (by decide) ?_
            refine lv_iadd hx hb dL_law_179 ?_
            obtain ⟨h9, hP⟩ := hP
            refine va_sld hx hb hX hbl hbA hS h9 dL_law_180 ?_
            refine lv_aload_n hx hb dL_law_181 rfl (lv_at hl 3 rfl) ?_
            obtain ⟨hcs, hP⟩ := hP
            refine r_callW (rest := []) X hM hS (ct_L_jumper hst v1 (xs (v5 + 1).toNatClampNeg) (xs (v5 + 2).toNatClampNeg) v3) hP mW_L_jumper rfl rfl hl.1 (Nat.le_of_ble_eq_true rfl) ⟨⟨by decide, by decide⟩, hcs⟩ dL_law_182 (fun r1 M H locs hM hS hP => ?_)
            refine lv_istore (lv' := [(6, .int r1), (0, .ref b), (1, .ref v1), (2, .ref v2), (3, .ref v3), (4, .ref v4), (5, .int v5)]) hx hb dL_law_185 hl (by decide) rfl (fun ls hl => ?_)
            refine lv_aload_n hx hb dL_law_187 rfl (lv_at hl 3 rfl) ?_
            refine lv_aload_n hx hb dL_law_188 rfl (lv_at hl 1 rfl) ?_
            refine lv_iload hx hb dL_law_189 (lv_at hl 6 rfl) ?_
            refine lv_iconst (v := 1) hx hb dL_law_191 (by decide) ?_
            refine lv_iadd hx hb dL_law_192 ?_
            obtain ⟨h9, hP⟩ := hP
            refine va_sld hx hb hX hbl hbA hS h9 dL_law_193 ?_
            refine lv_aload_n hx hb dL_law_194 rfl (lv_at hl 1 rfl) ?_
            refine lv_iload hx hb dL_law_195 (lv_at hl 6 rfl) ?_
            refine lv_iconst (v := 2) hx hb dL_law_197 (by decide) ?_
            refine lv_iadd hx hb dL_law_198 ?_
            obtain ⟨h9, hP⟩ := hP
            refine va_sld hx hb hX hbl hbA hS h9 dL_law_199 ?_
            obtain ⟨hcs, hP⟩ := hP
            refine r_callVi (rest := []) (T := TX9) (N := 14) X hM hS (ct_X9_jumper hst v2 (xs (v5 + 1).toNatClampNeg) (xs (v5 + 2).toNatClampNeg)) hP mV_L_100 rfl rfl rfl hl.1 (Nat.le_of_ble_eq_true rfl) ⟨⟨by decide, by decide⟩, hcs⟩ dL_law_200 (fun r2 M H locs hM hS hP => ?_)
            refine lv_istore (lv' := [(7, .int r2), (6, .int r1), (0, .ref b), (1, .ref v1), (2, .ref v2), (3, .ref v3), (4, .ref v4), (5, .int v5)]) hx hb dL_law_203 hl (by decide) rfl (fun ls hl => ?_)
            refine lv_aload_n hx hb dL_law_205 rfl (lv_at hl 4 rfl) ?_
            obtain ⟨hcs, hP⟩ := hP
            refine r_callVi (rest := []) (T := TX9) (N := 14) X hM hS (ct_X9_thrown hst v2) hP mV_L_101 rfl rfl rfl hl.1 (Nat.le_of_ble_eq_true rfl) ⟨⟨by decide, by decide⟩, hcs⟩ dL_law_206 (fun r3 M H locs hM hS hP => ?_)
            refine lv_iload hx hb dL_law_209 (lv_at hl 1 rfl) ?_
            refine lv_icmp_eq (tgt := 216) hx hb dL_law_211 (by decide) (fun hc => ?_) (fun hc => ?_)
            · have hP := mIf_t hP hc
              refine lv_iload hx hb dL_law_216 (lv_at hl 1 rfl) ?_
              refine lv_if_ne (tgt := 233) hx hb dL_law_218 (by decide) (fun hc => ?_) (fun hc => ?_)
              · have hP := mIf_f hP hc
                exact hb233 (u + 1 + 2) (w + 6 + 22) v1 v2 v3 v4 v5 _ _ _ _ hM hS (lv_sub hl [2, 3, 4, 5, 6, 7] rfl) hP
              · have hP := mIf_t hP hc
                refine lv_aload_n hx hb dL_law_221 rfl (lv_at hl 5 rfl) ?_
                refine lv_iconst (v := 0) hx hb dL_law_222 (by decide) ?_
                refine r_ldl X hM hP dL_law_223 (fun x4 hP => ?_)
                refine lv_iload hx hb dL_law_224 (lv_at hl 0 rfl) ?_
                refine lv_i2l hx hb dL_law_226 rfl ?_
                refine W.lcmp hx hb dL_law_227 ?_
                refine lv_if_eq (tgt := 233) hx hb dL_law_228 (by decide) (fun hc => ?_) (fun hc => ?_)
                · have hP := mIf_t hP hc
                  exact hb233 (u + 1 + 2) (w + 6 + 22) v1 v2 v3 v4 v5 _ _ _ _ hM hS (lv_sub hl [2, 3, 4, 5, 6, 7] rfl) hP
                · have hP := mIf_f hP hc
                  refine lv_iconst (v := 0) hx hb dL_law_231 (by decide) ?_
                  exact hP.2.elim
            · have hP := mIf_f hP hc
              refine lv_iconst (v := 0) hx hb dL_law_214 (by decide) ?_
              exact hP.2.elim
          · have hP := mIf_f hP hv
            by_cases hv : ((xs v5.toNatClampNeg) &&& 31) = 1
            · have hP := mIf_t hP hv
              refine lv_tableIn (off := 191) (tgt := 236) hx hb dL_law_45 (by rw [hv]; decide) (by rw [hv]; decide) (by rw [hv]; decide) (by decide) ?_
              refine lv_aload_n hx hb dL_law_236 rfl (lv_at hl 1 rfl) ?_
              refine lv_aload_n hx hb dL_law_237 rfl (lv_at hl 0 rfl) ?_
              refine lv_iload hx hb dL_law_238 (lv_at hl 5 rfl) ?_
              refine lv_iconst (v := 1) hx hb dL_law_240 (by decide) ?_
              refine lv_iadd hx hb dL_law_241 ?_
              obtain ⟨h9, hP⟩ := hP
              refine va_sld hx hb hX hbl hbA hS h9 dL_law_242 ?_
              refine lv_aload_n hx hb dL_law_243 rfl (lv_at hl 0 rfl) ?_
              refine lv_iload hx hb dL_law_244 (lv_at hl 5 rfl) ?_
              refine lv_iconst (v := 2) hx hb dL_law_246 (by decide) ?_
              refine lv_iadd hx hb dL_law_247 ?_
              obtain ⟨h9, hP⟩ := hP
              refine va_sld hx hb hX hbl hbA hS h9 dL_law_248 ?_
              refine lv_aload_n hx hb dL_law_249 rfl (lv_at hl 3 rfl) ?_
              obtain ⟨hcs, hP⟩ := hP
              refine r_callW (rest := []) X hM hS (ct_L_rig hst v1 (xs (v5 + 1).toNatClampNeg) (xs (v5 + 2).toNatClampNeg) v3) hP mW_L_rig rfl rfl hl.1 (Nat.le_of_ble_eq_true rfl) ⟨⟨by decide, by decide⟩, hcs⟩ dL_law_250 (fun r5 M H locs hM hS hP => ?_)
              refine lv_istore (lv' := [(6, .int r5), (0, .ref b), (1, .ref v1), (2, .ref v2), (3, .ref v3), (4, .ref v4), (5, .int v5)]) hx hb dL_law_253 hl (by decide) rfl (fun ls hl => ?_)
              refine lv_aload_n hx hb dL_law_255 rfl (lv_at hl 3 rfl) ?_
              refine lv_aload_n hx hb dL_law_256 rfl (lv_at hl 1 rfl) ?_
              refine lv_iload hx hb dL_law_257 (lv_at hl 6 rfl) ?_
              refine lv_iconst (v := 1) hx hb dL_law_259 (by decide) ?_
              refine lv_iadd hx hb dL_law_260 ?_
              obtain ⟨h9, hP⟩ := hP
              refine va_sld hx hb hX hbl hbA hS h9 dL_law_261 ?_
              refine lv_aload_n hx hb dL_law_262 rfl (lv_at hl 1 rfl) ?_
              refine lv_iload hx hb dL_law_263 (lv_at hl 6 rfl) ?_
              refine lv_iconst (v := 2) hx hb dL_law_265 (by decide) ?_
              refine lv_iadd hx hb dL_law_266 ?_
              obtain ⟨h9, hP⟩ := hP
              refine va_sld hx hb hX hbl hbA hS h9 dL_law_267 ?_
              obtain ⟨hcs, hP⟩ := hP
              refine r_callVi (rest := []) (T := TX9) (N := 14) X hM hS (ct_X9_rig hst v2 (xs (v5 + 1).toNatClampNeg) (xs (v5 + 2).toNatClampNeg)) hP mV_L_107 rfl rfl rfl hl.1 (Nat.le_of_ble_eq_true rfl) ⟨⟨by decide, by decide⟩, hcs⟩ dL_law_268 (fun r6 M H locs hM hS hP => ?_)
              refine lv_istore (lv' := [(7, .int r6), (6, .int r5), (0, .ref b), (1, .ref v1), (2, .ref v2), (3, .ref v3), (4, .ref v4), (5, .int v5)]) hx hb dL_law_271 hl (by decide) rfl (fun ls hl => ?_)
              refine lv_aload_n hx hb dL_law_273 rfl (lv_at hl 4 rfl) ?_
              obtain ⟨hcs, hP⟩ := hP
              refine r_callVi (rest := []) (T := TX9) (N := 14) X hM hS (ct_X9_thrown hst v2) hP mV_L_101 rfl rfl rfl hl.1 (Nat.le_of_ble_eq_true rfl) ⟨⟨by decide, by decide⟩, hcs⟩ dL_law_274 (fun r7 M H locs hM hS hP => ?_)
              refine lv_iload hx hb dL_law_277 (lv_at hl 1 rfl) ?_
              refine lv_icmp_eq (tgt := 284) hx hb dL_law_279 (by decide) (fun hc => ?_) (fun hc => ?_)
              · have hP := mIf_t hP hc
                refine lv_iload hx hb dL_law_284 (lv_at hl 1 rfl) ?_
                refine lv_if_ne (tgt := 301) hx hb dL_law_286 (by decide) (fun hc => ?_) (fun hc => ?_)
                · have hP := mIf_f hP hc
                  exact hb301 (u + 1 + 2) (w + 6 + 15) v1 v2 v3 v4 v5 _ _ _ _ hM hS (lv_sub hl [2, 3, 4, 5, 6, 7] rfl) hP
                · have hP := mIf_t hP hc
                  refine lv_aload_n hx hb dL_law_289 rfl (lv_at hl 5 rfl) ?_
                  refine lv_iconst (v := 0) hx hb dL_law_290 (by decide) ?_
                  refine r_ldl X hM hP dL_law_291 (fun x8 hP => ?_)
                  refine lv_iload hx hb dL_law_292 (lv_at hl 0 rfl) ?_
                  refine lv_i2l hx hb dL_law_294 rfl ?_
                  refine W.lcmp hx hb dL_law_295 ?_
                  refine lv_if_eq (tgt := 301) hx hb dL_law_296 (by decide) (fun hc => ?_) (fun hc => ?_)
                  · have hP := mIf_t hP hc
                    exact hb301 (u + 1 + 2) (w + 6 + 15) v1 v2 v3 v4 v5 _ _ _ _ hM hS (lv_sub hl [2, 3, 4, 5, 6, 7] rfl) hP
                  · have hP := mIf_f hP hc
                    refine lv_iconst (v := 0) hx hb dL_law_299 (by decide) ?_
                    exact hP.2.elim
              · have hP := mIf_f hP hc
                refine lv_iconst (v := 0) hx hb dL_law_282 (by decide) ?_
                exact hP.2.elim
            · have hP := mIf_f hP hv
              by_cases hv : ((xs v5.toNatClampNeg) &&& 31) = 2
              · have hP := mIf_t hP hv
                refine lv_tableIn (off := 259) (tgt := 304) hx hb dL_law_45 (by rw [hv]; decide) (by rw [hv]; decide) (by rw [hv]; decide) (by decide) ?_
                refine lv_aload_n hx hb dL_law_304 rfl (lv_at hl 1 rfl) ?_
                refine lv_aload_n hx hb dL_law_305 rfl (lv_at hl 0 rfl) ?_
                refine lv_iload hx hb dL_law_306 (lv_at hl 5 rfl) ?_
                refine lv_iconst (v := 1) hx hb dL_law_308 (by decide) ?_
                refine lv_iadd hx hb dL_law_309 ?_
                obtain ⟨h9, hP⟩ := hP
                refine va_sld hx hb hX hbl hbA hS h9 dL_law_310 ?_
                refine lv_aload_n hx hb dL_law_311 rfl (lv_at hl 0 rfl) ?_
                refine lv_iload hx hb dL_law_312 (lv_at hl 5 rfl) ?_
                refine lv_iconst (v := 2) hx hb dL_law_314 (by decide) ?_
                refine lv_iadd hx hb dL_law_315 ?_
                obtain ⟨h9, hP⟩ := hP
                refine va_sld hx hb hX hbl hbA hS h9 dL_law_316 ?_
                refine lv_aload_n hx hb dL_law_317 rfl (lv_at hl 3 rfl) ?_
                obtain ⟨hcs, hP⟩ := hP
                refine r_callW (rest := []) X hM hS (ct_L_lend hst v1 (xs (v5 + 1).toNatClampNeg) (xs (v5 + 2).toNatClampNeg) v3) hP mW_L_lend rfl rfl hl.1 (Nat.le_of_ble_eq_true rfl) ⟨⟨by decide, by decide⟩, hcs⟩ dL_law_318 (fun r9 M H locs hM hS hP => ?_)
                refine lv_istore (lv' := [(6, .int r9), (0, .ref b), (1, .ref v1), (2, .ref v2), (3, .ref v3), (4, .ref v4), (5, .int v5)]) hx hb dL_law_321 hl (by decide) rfl (fun ls hl => ?_)
                refine lv_aload_n hx hb dL_law_323 rfl (lv_at hl 3 rfl) ?_
                refine lv_aload_n hx hb dL_law_324 rfl (lv_at hl 1 rfl) ?_
                refine lv_iload hx hb dL_law_325 (lv_at hl 6 rfl) ?_
                refine lv_iconst (v := 1) hx hb dL_law_327 (by decide) ?_
                refine lv_iadd hx hb dL_law_328 ?_
                obtain ⟨h9, hP⟩ := hP
                refine va_sld hx hb hX hbl hbA hS h9 dL_law_329 ?_
                refine lv_aload_n hx hb dL_law_330 rfl (lv_at hl 1 rfl) ?_
                refine lv_iload hx hb dL_law_331 (lv_at hl 6 rfl) ?_
                refine lv_iconst (v := 2) hx hb dL_law_333 (by decide) ?_
                refine lv_iadd hx hb dL_law_334 ?_
                obtain ⟨h9, hP⟩ := hP
                refine va_sld hx hb hX hbl hbA hS h9 dL_law_335 ?_
                obtain ⟨hcs, hP⟩ := hP
                refine r_callVi (rest := []) (T := TX9) (N := 14) X hM hS (ct_X9_lend hst v2 (xs (v5 + 1).toNatClampNeg) (xs (v5 + 2).toNatClampNeg)) hP mV_L_110 rfl rfl rfl hl.1 (Nat.le_of_ble_eq_true rfl) ⟨⟨by decide, by decide⟩, hcs⟩ dL_law_336 (fun r10 M H locs hM hS hP => ?_)
                refine lv_istore (lv' := [(7, .int r10), (6, .int r9), (0, .ref b), (1, .ref v1), (2, .ref v2), (3, .ref v3), (4, .ref v4), (5, .int v5)]) hx hb dL_law_339 hl (by decide) rfl (fun ls hl => ?_)
                refine lv_aload_n hx hb dL_law_341 rfl (lv_at hl 4 rfl) ?_
                obtain ⟨hcs, hP⟩ := hP
                refine r_callVi (rest := []) (T := TX9) (N := 14) X hM hS (ct_X9_thrown hst v2) hP mV_L_101 rfl rfl rfl hl.1 (Nat.le_of_ble_eq_true rfl) ⟨⟨by decide, by decide⟩, hcs⟩ dL_law_342 (fun r11 M H locs hM hS hP => ?_)
                refine lv_iload hx hb dL_law_345 (lv_at hl 1 rfl) ?_
                refine lv_icmp_eq (tgt := 352) hx hb dL_law_347 (by decide) (fun hc => ?_) (fun hc => ?_)
                · have hP := mIf_t hP hc
                  refine lv_iload hx hb dL_law_352 (lv_at hl 1 rfl) ?_
                  refine lv_if_ne (tgt := 369) hx hb dL_law_354 (by decide) (fun hc => ?_) (fun hc => ?_)
                  · have hP := mIf_f hP hc
                    exact hb369 (u + 1) (w + 6) v1 v2 v3 v4 v5 _ _ _ _ hM hS (lv_sub hl [2, 3, 4, 5, 6, 7] rfl) hP
                  · have hP := mIf_t hP hc
                    refine lv_aload_n hx hb dL_law_357 rfl (lv_at hl 5 rfl) ?_
                    refine lv_iconst (v := 0) hx hb dL_law_358 (by decide) ?_
                    refine r_ldl X hM hP dL_law_359 (fun x12 hP => ?_)
                    refine lv_iload hx hb dL_law_360 (lv_at hl 0 rfl) ?_
                    refine lv_i2l hx hb dL_law_362 rfl ?_
                    refine W.lcmp hx hb dL_law_363 ?_
                    refine lv_if_eq (tgt := 369) hx hb dL_law_364 (by decide) (fun hc => ?_) (fun hc => ?_)
                    · have hP := mIf_t hP hc
                      exact hb369 (u + 1) (w + 6) v1 v2 v3 v4 v5 _ _ _ _ hM hS (lv_sub hl [2, 3, 4, 5, 6, 7] rfl) hP
                    · have hP := mIf_f hP hc
                      refine lv_iconst (v := 0) hx hb dL_law_367 (by decide) ?_
                      exact hP.2.elim
                · have hP := mIf_f hP hc
                  refine lv_iconst (v := 0) hx hb dL_law_350 (by decide) ?_
                  exact hP.2.elim
              · have hP := mIf_f hP hv
                by_cases hv : ((xs v5.toNatClampNeg) &&& 31) = 3
                · have hP := mIf_t hP hv
                  refine lv_tableIn (off := 327) (tgt := 372) hx hb dL_law_45 (by rw [hv]; decide) (by rw [hv]; decide) (by rw [hv]; decide) (by decide) ?_
                  refine lv_aload_n hx hb dL_law_372 rfl (lv_at hl 1 rfl) ?_
                  refine lv_aload_n hx hb dL_law_373 rfl (lv_at hl 0 rfl) ?_
                  refine lv_iload hx hb dL_law_374 (lv_at hl 5 rfl) ?_
                  refine lv_iconst (v := 1) hx hb dL_law_376 (by decide) ?_
                  refine lv_iadd hx hb dL_law_377 ?_
                  obtain ⟨h9, hP⟩ := hP
                  refine va_sld hx hb hX hbl hbA hS h9 dL_law_378 ?_
                  refine lv_aload_n hx hb dL_law_379 rfl (lv_at hl 0 rfl) ?_
                  refine lv_iload hx hb dL_law_380 (lv_at hl 5 rfl) ?_
                  refine lv_iconst (v := 2) hx hb dL_law_382 (by decide) ?_
                  refine lv_iadd hx hb dL_law_383 ?_
                  obtain ⟨h9, hP⟩ := hP
                  refine va_sld hx hb hX hbl hbA hS h9 dL_law_384 ?_
                  refine lv_aload_n hx hb dL_law_385 rfl (lv_at hl 3 rfl) ?_
                  obtain ⟨hcs, hP⟩ := hP
                  refine r_callW (rest := []) X hM hS (ct_L_pack hst v1 (xs (v5 + 1).toNatClampNeg) (xs (v5 + 2).toNatClampNeg) v3) hP mW_L_pack rfl rfl hl.1 (Nat.le_of_ble_eq_true rfl) ⟨⟨by decide, by decide⟩, hcs⟩ dL_law_386 (fun r13 M H locs hM hS hP => ?_)
                  refine lv_istore (lv' := [(6, .int r13), (0, .ref b), (1, .ref v1), (2, .ref v2), (3, .ref v3), (4, .ref v4), (5, .int v5)]) hx hb dL_law_389 hl (by decide) rfl (fun ls hl => ?_)
                  refine lv_aload_n hx hb dL_law_391 rfl (lv_at hl 3 rfl) ?_
                  refine lv_aload_n hx hb dL_law_392 rfl (lv_at hl 1 rfl) ?_
                  refine lv_iload hx hb dL_law_393 (lv_at hl 6 rfl) ?_
                  refine lv_iconst (v := 1) hx hb dL_law_395 (by decide) ?_
                  refine lv_iadd hx hb dL_law_396 ?_
                  obtain ⟨h9, hP⟩ := hP
                  refine va_sld hx hb hX hbl hbA hS h9 dL_law_397 ?_
                  refine lv_aload_n hx hb dL_law_398 rfl (lv_at hl 1 rfl) ?_
                  refine lv_iload hx hb dL_law_399 (lv_at hl 6 rfl) ?_
                  refine lv_iconst (v := 2) hx hb dL_law_401 (by decide) ?_
                  refine lv_iadd hx hb dL_law_402 ?_
                  obtain ⟨h9, hP⟩ := hP
                  refine va_sld hx hb hX hbl hbA hS h9 dL_law_403 ?_
                  obtain ⟨hcs, hP⟩ := hP
                  refine r_callVi (rest := []) (T := TX9) (N := 14) X hM hS (ct_X9_pack hst v2 (xs (v5 + 1).toNatClampNeg) (xs (v5 + 2).toNatClampNeg)) hP mV_L_113 rfl rfl rfl hl.1 (Nat.le_of_ble_eq_true rfl) ⟨⟨by decide, by decide⟩, hcs⟩ dL_law_404 (fun r14 M H locs hM hS hP => ?_)
                  refine lv_istore (lv' := [(7, .int r14), (6, .int r13), (0, .ref b), (1, .ref v1), (2, .ref v2), (3, .ref v3), (4, .ref v4), (5, .int v5)]) hx hb dL_law_407 hl (by decide) rfl (fun ls hl => ?_)
                  refine lv_aload_n hx hb dL_law_409 rfl (lv_at hl 4 rfl) ?_
                  obtain ⟨hcs, hP⟩ := hP
                  refine r_callVi (rest := []) (T := TX9) (N := 14) X hM hS (ct_X9_thrown hst v2) hP mV_L_101 rfl rfl rfl hl.1 (Nat.le_of_ble_eq_true rfl) ⟨⟨by decide, by decide⟩, hcs⟩ dL_law_410 (fun r15 M H locs hM hS hP => ?_)
                  refine lv_iload hx hb dL_law_413 (lv_at hl 1 rfl) ?_
                  refine lv_icmp_eq (tgt := 420) hx hb dL_law_415 (by decide) (fun hc => ?_) (fun hc => ?_)
                  · have hP := mIf_t hP hc
                    refine lv_iload hx hb dL_law_420 (lv_at hl 1 rfl) ?_
                    refine lv_if_ne (tgt := 437) hx hb dL_law_422 (by decide) (fun hc => ?_) (fun hc => ?_)
                    · have hP := mIf_f hP hc
                      exact hb437 (u + 1) (w + 6) v1 v2 v3 v4 v5 _ _ _ _ hM hS (lv_sub hl [2, 3, 4, 5, 6, 7] rfl) hP
                    · have hP := mIf_t hP hc
                      refine lv_aload_n hx hb dL_law_425 rfl (lv_at hl 5 rfl) ?_
                      refine lv_iconst (v := 0) hx hb dL_law_426 (by decide) ?_
                      refine r_ldl X hM hP dL_law_427 (fun x16 hP => ?_)
                      refine lv_iload hx hb dL_law_428 (lv_at hl 0 rfl) ?_
                      refine lv_i2l hx hb dL_law_430 rfl ?_
                      refine W.lcmp hx hb dL_law_431 ?_
                      refine lv_if_eq (tgt := 437) hx hb dL_law_432 (by decide) (fun hc => ?_) (fun hc => ?_)
                      · have hP := mIf_t hP hc
                        exact hb437 (u + 1) (w + 6) v1 v2 v3 v4 v5 _ _ _ _ hM hS (lv_sub hl [2, 3, 4, 5, 6, 7] rfl) hP
                      · have hP := mIf_f hP hc
                        refine lv_iconst (v := 0) hx hb dL_law_435 (by decide) ?_
                        exact hP.2.elim
                  · have hP := mIf_f hP hc
                    refine lv_iconst (v := 0) hx hb dL_law_418 (by decide) ?_
                    exact hP.2.elim
                · have hP := mIf_f hP hv
                  by_cases hv : ((xs v5.toNatClampNeg) &&& 31) = 4
                  · have hP := mIf_t hP hv
                    refine lv_tableIn (off := 395) (tgt := 440) hx hb dL_law_45 (by rw [hv]; decide) (by rw [hv]; decide) (by rw [hv]; decide) (by decide) ?_
                    refine lv_aload_n hx hb dL_law_440 rfl (lv_at hl 1 rfl) ?_
                    refine lv_aload_n hx hb dL_law_441 rfl (lv_at hl 0 rfl) ?_
                    refine lv_iload hx hb dL_law_442 (lv_at hl 5 rfl) ?_
                    refine lv_iconst (v := 1) hx hb dL_law_444 (by decide) ?_
                    refine lv_iadd hx hb dL_law_445 ?_
                    obtain ⟨h9, hP⟩ := hP
                    refine va_sld hx hb hX hbl hbA hS h9 dL_law_446 ?_
                    refine lv_aload_n hx hb dL_law_447 rfl (lv_at hl 3 rfl) ?_
                    obtain ⟨hcs, hP⟩ := hP
                    refine r_callW (rest := []) X hM hS (ct_L_renew hst v1 (xs (v5 + 1).toNatClampNeg) v3) hP mW_L_renew rfl rfl hl.1 (Nat.le_of_ble_eq_true rfl) ⟨⟨by decide, by decide⟩, hcs⟩ dL_law_448 (fun r17 M H locs hM hS hP => ?_)
                    refine lv_istore (lv' := [(6, .int r17), (0, .ref b), (1, .ref v1), (2, .ref v2), (3, .ref v3), (4, .ref v4), (5, .int v5)]) hx hb dL_law_451 hl (by decide) rfl (fun ls hl => ?_)
                    refine lv_aload_n hx hb dL_law_453 rfl (lv_at hl 3 rfl) ?_
                    refine lv_aload_n hx hb dL_law_454 rfl (lv_at hl 1 rfl) ?_
                    refine lv_iload hx hb dL_law_455 (lv_at hl 6 rfl) ?_
                    refine lv_iconst (v := 1) hx hb dL_law_457 (by decide) ?_
                    refine lv_iadd hx hb dL_law_458 ?_
                    obtain ⟨h9, hP⟩ := hP
                    refine va_sld hx hb hX hbl hbA hS h9 dL_law_459 ?_
                    obtain ⟨hcs, hP⟩ := hP
                    refine r_callVi (rest := []) (T := TX9) (N := 14) X hM hS (ct_X9_renew hst v2 (xs (v5 + 1).toNatClampNeg)) hP mV_L_117 rfl rfl rfl hl.1 (Nat.le_of_ble_eq_true rfl) ⟨⟨by decide, by decide⟩, hcs⟩ dL_law_460 (fun r18 M H locs hM hS hP => ?_)
                    refine lv_istore (lv' := [(7, .int r18), (6, .int r17), (0, .ref b), (1, .ref v1), (2, .ref v2), (3, .ref v3), (4, .ref v4), (5, .int v5)]) hx hb dL_law_463 hl (by decide) rfl (fun ls hl => ?_)
                    refine lv_aload_n hx hb dL_law_465 rfl (lv_at hl 4 rfl) ?_
                    obtain ⟨hcs, hP⟩ := hP
                    refine r_callVi (rest := []) (T := TX9) (N := 14) X hM hS (ct_X9_thrown hst v2) hP mV_L_101 rfl rfl rfl hl.1 (Nat.le_of_ble_eq_true rfl) ⟨⟨by decide, by decide⟩, hcs⟩ dL_law_466 (fun r19 M H locs hM hS hP => ?_)
                    refine lv_iload hx hb dL_law_469 (lv_at hl 1 rfl) ?_
                    refine lv_icmp_eq (tgt := 476) hx hb dL_law_471 (by decide) (fun hc => ?_) (fun hc => ?_)
                    · have hP := mIf_t hP hc
                      refine lv_iload hx hb dL_law_476 (lv_at hl 1 rfl) ?_
                      refine lv_if_ne (tgt := 493) hx hb dL_law_478 (by decide) (fun hc => ?_) (fun hc => ?_)
                      · have hP := mIf_f hP hc
                        exact hb493 (u + 1) (w + 6) v1 v2 v3 v4 v5 _ _ _ _ hM hS (lv_sub hl [2, 3, 4, 5, 6, 7] rfl) hP
                      · have hP := mIf_t hP hc
                        refine lv_aload_n hx hb dL_law_481 rfl (lv_at hl 5 rfl) ?_
                        refine lv_iconst (v := 0) hx hb dL_law_482 (by decide) ?_
                        refine r_ldl X hM hP dL_law_483 (fun x20 hP => ?_)
                        refine lv_iload hx hb dL_law_484 (lv_at hl 0 rfl) ?_
                        refine lv_i2l hx hb dL_law_486 rfl ?_
                        refine W.lcmp hx hb dL_law_487 ?_
                        refine lv_if_eq (tgt := 493) hx hb dL_law_488 (by decide) (fun hc => ?_) (fun hc => ?_)
                        · have hP := mIf_t hP hc
                          exact hb493 (u + 1) (w + 6) v1 v2 v3 v4 v5 _ _ _ _ hM hS (lv_sub hl [2, 3, 4, 5, 6, 7] rfl) hP
                        · have hP := mIf_f hP hc
                          refine lv_iconst (v := 0) hx hb dL_law_491 (by decide) ?_
                          exact hP.2.elim
                    · have hP := mIf_f hP hc
                      refine lv_iconst (v := 0) hx hb dL_law_474 (by decide) ?_
                      exact hP.2.elim
                  · have hP := mIf_f hP hv
                    by_cases hv : ((xs v5.toNatClampNeg) &&& 31) = 5
                    · have hP := mIf_t hP hv
                      refine lv_tableIn (off := 451) (tgt := 496) hx hb dL_law_45 (by rw [hv]; decide) (by rw [hv]; decide) (by rw [hv]; decide) (by decide) ?_
                      refine lv_aload_n hx hb dL_law_496 rfl (lv_at hl 1 rfl) ?_
                      refine lv_aload_n hx hb dL_law_497 rfl (lv_at hl 0 rfl) ?_
                      refine lv_iload hx hb dL_law_498 (lv_at hl 5 rfl) ?_
                      refine lv_iconst (v := 1) hx hb dL_law_500 (by decide) ?_
                      refine lv_iadd hx hb dL_law_501 ?_
                      obtain ⟨h9, hP⟩ := hP
                      refine va_sld hx hb hX hbl hbA hS h9 dL_law_502 ?_
                      refine lv_aload_n hx hb dL_law_503 rfl (lv_at hl 3 rfl) ?_
                      obtain ⟨hcs, hP⟩ := hP
                      refine r_callW (rest := []) X hM hS (ct_L_pass hst v1 (xs (v5 + 1).toNatClampNeg) v3) hP mW_L_pass rfl rfl hl.1 (Nat.le_of_ble_eq_true rfl) ⟨⟨by decide, by decide⟩, hcs⟩ dL_law_504 (fun r21 M H locs hM hS hP => ?_)
                      refine lv_istore (lv' := [(6, .int r21), (0, .ref b), (1, .ref v1), (2, .ref v2), (3, .ref v3), (4, .ref v4), (5, .int v5)]) hx hb dL_law_507 hl (by decide) rfl (fun ls hl => ?_)
                      refine lv_aload_n hx hb dL_law_509 rfl (lv_at hl 3 rfl) ?_
                      refine lv_aload_n hx hb dL_law_510 rfl (lv_at hl 1 rfl) ?_
                      refine lv_iload hx hb dL_law_511 (lv_at hl 6 rfl) ?_
                      refine lv_iconst (v := 1) hx hb dL_law_513 (by decide) ?_
                      refine lv_iadd hx hb dL_law_514 ?_
                      obtain ⟨h9, hP⟩ := hP
                      refine va_sld hx hb hX hbl hbA hS h9 dL_law_515 ?_
                      obtain ⟨hcs, hP⟩ := hP
                      refine r_callVi (rest := []) (T := TX9) (N := 14) X hM hS (ct_X9_pass hst v2 (xs (v5 + 1).toNatClampNeg)) hP mV_L_120 rfl rfl rfl hl.1 (Nat.le_of_ble_eq_true rfl) ⟨⟨by decide, by decide⟩, hcs⟩ dL_law_516 (fun r22 M H locs hM hS hP => ?_)
                      refine lv_istore (lv' := [(7, .int r22), (6, .int r21), (0, .ref b), (1, .ref v1), (2, .ref v2), (3, .ref v3), (4, .ref v4), (5, .int v5)]) hx hb dL_law_519 hl (by decide) rfl (fun ls hl => ?_)
                      refine lv_aload_n hx hb dL_law_521 rfl (lv_at hl 4 rfl) ?_
                      obtain ⟨hcs, hP⟩ := hP
                      refine r_callVi (rest := []) (T := TX9) (N := 14) X hM hS (ct_X9_thrown hst v2) hP mV_L_101 rfl rfl rfl hl.1 (Nat.le_of_ble_eq_true rfl) ⟨⟨by decide, by decide⟩, hcs⟩ dL_law_522 (fun r23 M H locs hM hS hP => ?_)
                      refine lv_iload hx hb dL_law_525 (lv_at hl 1 rfl) ?_
                      refine lv_icmp_eq (tgt := 532) hx hb dL_law_527 (by decide) (fun hc => ?_) (fun hc => ?_)
                      · have hP := mIf_t hP hc
                        refine lv_iload hx hb dL_law_532 (lv_at hl 1 rfl) ?_
                        refine lv_if_ne (tgt := 549) hx hb dL_law_534 (by decide) (fun hc => ?_) (fun hc => ?_)
                        · have hP := mIf_f hP hc
                          exact hb549 (u + 1) (w + 6) v1 v2 v3 v4 v5 _ _ _ _ hM hS (lv_sub hl [2, 3, 4, 5, 6, 7] rfl) hP
                        · have hP := mIf_t hP hc
                          refine lv_aload_n hx hb dL_law_537 rfl (lv_at hl 5 rfl) ?_
                          refine lv_iconst (v := 0) hx hb dL_law_538 (by decide) ?_
                          refine r_ldl X hM hP dL_law_539 (fun x24 hP => ?_)
                          refine lv_iload hx hb dL_law_540 (lv_at hl 0 rfl) ?_
                          refine lv_i2l hx hb dL_law_542 rfl ?_
                          refine W.lcmp hx hb dL_law_543 ?_
                          refine lv_if_eq (tgt := 549) hx hb dL_law_544 (by decide) (fun hc => ?_) (fun hc => ?_)
                          · have hP := mIf_t hP hc
                            exact hb549 (u + 1) (w + 6) v1 v2 v3 v4 v5 _ _ _ _ hM hS (lv_sub hl [2, 3, 4, 5, 6, 7] rfl) hP
                          · have hP := mIf_f hP hc
                            refine lv_iconst (v := 0) hx hb dL_law_547 (by decide) ?_
                            exact hP.2.elim
                      · have hP := mIf_f hP hc
                        refine lv_iconst (v := 0) hx hb dL_law_530 (by decide) ?_
                        exact hP.2.elim
                    · have hP := mIf_f hP hv
                      by_cases hv : ((xs v5.toNatClampNeg) &&& 31) = 6
                      · have hP := mIf_t hP hv
                        refine lv_tableIn (off := 507) (tgt := 552) hx hb dL_law_45 (by rw [hv]; decide) (by rw [hv]; decide) (by rw [hv]; decide) (by decide) ?_
                        refine lv_aload_n hx hb dL_law_552 rfl (lv_at hl 1 rfl) ?_
                        refine lv_aload_n hx hb dL_law_553 rfl (lv_at hl 0 rfl) ?_
                        refine lv_iload hx hb dL_law_554 (lv_at hl 5 rfl) ?_
                        refine lv_iconst (v := 1) hx hb dL_law_556 (by decide) ?_
                        refine lv_iadd hx hb dL_law_557 ?_
                        obtain ⟨h9, hP⟩ := hP
                        refine va_sld hx hb hX hbl hbA hS h9 dL_law_558 ?_
                        refine lv_aload_n hx hb dL_law_559 rfl (lv_at hl 0 rfl) ?_
                        refine lv_iload hx hb dL_law_560 (lv_at hl 5 rfl) ?_
                        refine lv_iconst (v := 2) hx hb dL_law_562 (by decide) ?_
                        refine lv_iadd hx hb dL_law_563 ?_
                        obtain ⟨h9, hP⟩ := hP
                        refine va_sld hx hb hX hbl hbA hS h9 dL_law_564 ?_
                        refine lv_aload_n hx hb dL_law_565 rfl (lv_at hl 0 rfl) ?_
                        refine lv_iload hx hb dL_law_566 (lv_at hl 5 rfl) ?_
                        refine lv_iconst (v := 3) hx hb dL_law_568 (by decide) ?_
                        refine lv_iadd hx hb dL_law_569 ?_
                        obtain ⟨h9, hP⟩ := hP
                        refine va_sld hx hb hX hbl hbA hS h9 dL_law_570 ?_
                        refine lv_aload_n hx hb dL_law_571 rfl (lv_at hl 3 rfl) ?_
                        obtain ⟨hcs, hP⟩ := hP
                        refine r_callW (rest := []) X hM hS (ct_L_wind hst v1 (xs (v5 + 1).toNatClampNeg) (xs (v5 + 2).toNatClampNeg) (xs (v5 + 3).toNatClampNeg) v3) hP mW_L_wind rfl rfl hl.1 (Nat.le_of_ble_eq_true rfl) ⟨⟨by decide, by decide⟩, hcs⟩ dL_law_572 (fun r25 M H locs hM hS hP => ?_)
                        refine lv_istore (lv' := [(6, .int r25), (0, .ref b), (1, .ref v1), (2, .ref v2), (3, .ref v3), (4, .ref v4), (5, .int v5)]) hx hb dL_law_575 hl (by decide) rfl (fun ls hl => ?_)
                        refine lv_aload_n hx hb dL_law_577 rfl (lv_at hl 3 rfl) ?_
                        refine lv_aload_n hx hb dL_law_578 rfl (lv_at hl 1 rfl) ?_
                        refine lv_iload hx hb dL_law_579 (lv_at hl 6 rfl) ?_
                        refine lv_iconst (v := 1) hx hb dL_law_581 (by decide) ?_
                        refine lv_iadd hx hb dL_law_582 ?_
                        obtain ⟨h9, hP⟩ := hP
                        refine va_sld hx hb hX hbl hbA hS h9 dL_law_583 ?_
                        refine lv_aload_n hx hb dL_law_584 rfl (lv_at hl 1 rfl) ?_
                        refine lv_iload hx hb dL_law_585 (lv_at hl 6 rfl) ?_
                        refine lv_iconst (v := 2) hx hb dL_law_587 (by decide) ?_
                        refine lv_iadd hx hb dL_law_588 ?_
                        obtain ⟨h9, hP⟩ := hP
                        refine va_sld hx hb hX hbl hbA hS h9 dL_law_589 ?_
                        refine lv_aload_n hx hb dL_law_590 rfl (lv_at hl 1 rfl) ?_
                        refine lv_iload hx hb dL_law_591 (lv_at hl 6 rfl) ?_
                        refine lv_iconst (v := 3) hx hb dL_law_593 (by decide) ?_
                        refine lv_iadd hx hb dL_law_594 ?_
                        obtain ⟨h9, hP⟩ := hP
                        refine va_sld hx hb hX hbl hbA hS h9 dL_law_595 ?_
                        obtain ⟨hcs, hP⟩ := hP
                        refine r_callVi (rest := []) (T := TX9) (N := 14) X hM hS (ct_X9_wind hst v2 (xs (v5 + 1).toNatClampNeg) (xs (v5 + 2).toNatClampNeg) (xs (v5 + 3).toNatClampNeg)) hP mV_L_124 rfl rfl rfl hl.1 (Nat.le_of_ble_eq_true rfl) ⟨⟨by decide, by decide⟩, hcs⟩ dL_law_596 (fun r26 M H locs hM hS hP => ?_)
                        refine lv_istore (lv' := [(7, .int r26), (6, .int r25), (0, .ref b), (1, .ref v1), (2, .ref v2), (3, .ref v3), (4, .ref v4), (5, .int v5)]) hx hb dL_law_599 hl (by decide) rfl (fun ls hl => ?_)
                        refine lv_aload_n hx hb dL_law_601 rfl (lv_at hl 4 rfl) ?_
                        obtain ⟨hcs, hP⟩ := hP
                        refine r_callVi (rest := []) (T := TX9) (N := 14) X hM hS (ct_X9_thrown hst v2) hP mV_L_101 rfl rfl rfl hl.1 (Nat.le_of_ble_eq_true rfl) ⟨⟨by decide, by decide⟩, hcs⟩ dL_law_602 (fun r27 M H locs hM hS hP => ?_)
                        refine lv_iload hx hb dL_law_605 (lv_at hl 1 rfl) ?_
                        refine lv_icmp_eq (tgt := 612) hx hb dL_law_607 (by decide) (fun hc => ?_) (fun hc => ?_)
                        · have hP := mIf_t hP hc
                          refine lv_iload hx hb dL_law_612 (lv_at hl 1 rfl) ?_
                          refine lv_if_ne (tgt := 629) hx hb dL_law_614 (by decide) (fun hc => ?_) (fun hc => ?_)
                          · have hP := mIf_f hP hc
                            exact hb629 (u + 1) (w + 6) v1 v2 v3 v4 v5 _ _ _ _ hM hS (lv_sub hl [2, 3, 4, 5, 6, 7] rfl) hP
                          · have hP := mIf_t hP hc
                            refine lv_aload_n hx hb dL_law_617 rfl (lv_at hl 5 rfl) ?_
                            refine lv_iconst (v := 0) hx hb dL_law_618 (by decide) ?_
                            refine r_ldl X hM hP dL_law_619 (fun x28 hP => ?_)
                            refine lv_iload hx hb dL_law_620 (lv_at hl 0 rfl) ?_
                            refine lv_i2l hx hb dL_law_622 rfl ?_
                            refine W.lcmp hx hb dL_law_623 ?_
                            refine lv_if_eq (tgt := 629) hx hb dL_law_624 (by decide) (fun hc => ?_) (fun hc => ?_)
                            · have hP := mIf_t hP hc
                              exact hb629 (u + 1) (w + 6) v1 v2 v3 v4 v5 _ _ _ _ hM hS (lv_sub hl [2, 3, 4, 5, 6, 7] rfl) hP
                            · have hP := mIf_f hP hc
                              refine lv_iconst (v := 0) hx hb dL_law_627 (by decide) ?_
                              exact hP.2.elim
                        · have hP := mIf_f hP hc
                          refine lv_iconst (v := 0) hx hb dL_law_610 (by decide) ?_
                          exact hP.2.elim
                      · have hP := mIf_f hP hv
                        by_cases hv : ((xs v5.toNatClampNeg) &&& 31) = 7
                        · have hP := mIf_t hP hv
                          refine lv_tableIn (off := 587) (tgt := 632) hx hb dL_law_45 (by rw [hv]; decide) (by rw [hv]; decide) (by rw [hv]; decide) (by decide) ?_
                          refine lv_aload_n hx hb dL_law_632 rfl (lv_at hl 1 rfl) ?_
                          refine lv_aload_n hx hb dL_law_633 rfl (lv_at hl 0 rfl) ?_
                          refine lv_iload hx hb dL_law_634 (lv_at hl 5 rfl) ?_
                          refine lv_iconst (v := 1) hx hb dL_law_636 (by decide) ?_
                          refine lv_iadd hx hb dL_law_637 ?_
                          obtain ⟨h9, hP⟩ := hP
                          refine va_sld hx hb hX hbl hbA hS h9 dL_law_638 ?_
                          refine lv_aload_n hx hb dL_law_639 rfl (lv_at hl 0 rfl) ?_
                          refine lv_iload hx hb dL_law_640 (lv_at hl 5 rfl) ?_
                          refine lv_iconst (v := 2) hx hb dL_law_642 (by decide) ?_
                          refine lv_iadd hx hb dL_law_643 ?_
                          obtain ⟨h9, hP⟩ := hP
                          refine va_sld hx hb hX hbl hbA hS h9 dL_law_644 ?_
                          refine lv_aload_n hx hb dL_law_645 rfl (lv_at hl 0 rfl) ?_
                          refine lv_iload hx hb dL_law_646 (lv_at hl 5 rfl) ?_
                          refine lv_iconst (v := 3) hx hb dL_law_648 (by decide) ?_
                          refine lv_iadd hx hb dL_law_649 ?_
                          obtain ⟨h9, hP⟩ := hP
                          refine va_sld hx hb hX hbl hbA hS h9 dL_law_650 ?_
                          refine lv_aload_n hx hb dL_law_651 rfl (lv_at hl 3 rfl) ?_
                          obtain ⟨hcs, hP⟩ := hP
                          refine r_callW (rest := []) X hM hS (ct_L_board hst v1 (xs (v5 + 1).toNatClampNeg) (xs (v5 + 2).toNatClampNeg) (xs (v5 + 3).toNatClampNeg) v3) hP mW_L_board rfl rfl hl.1 (Nat.le_of_ble_eq_true rfl) ⟨⟨by decide, by decide⟩, hcs⟩ dL_law_652 (fun r29 M H locs hM hS hP => ?_)
                          refine lv_istore (lv' := [(6, .int r29), (0, .ref b), (1, .ref v1), (2, .ref v2), (3, .ref v3), (4, .ref v4), (5, .int v5)]) hx hb dL_law_655 hl (by decide) rfl (fun ls hl => ?_)
                          refine lv_aload_n hx hb dL_law_657 rfl (lv_at hl 3 rfl) ?_
                          refine lv_aload_n hx hb dL_law_658 rfl (lv_at hl 1 rfl) ?_
                          refine lv_iload hx hb dL_law_659 (lv_at hl 6 rfl) ?_
                          refine lv_iconst (v := 1) hx hb dL_law_661 (by decide) ?_
                          refine lv_iadd hx hb dL_law_662 ?_
                          obtain ⟨h9, hP⟩ := hP
                          refine va_sld hx hb hX hbl hbA hS h9 dL_law_663 ?_
                          refine lv_aload_n hx hb dL_law_664 rfl (lv_at hl 1 rfl) ?_
                          refine lv_iload hx hb dL_law_665 (lv_at hl 6 rfl) ?_
                          refine lv_iconst (v := 2) hx hb dL_law_667 (by decide) ?_
                          refine lv_iadd hx hb dL_law_668 ?_
                          obtain ⟨h9, hP⟩ := hP
                          refine va_sld hx hb hX hbl hbA hS h9 dL_law_669 ?_
                          refine lv_aload_n hx hb dL_law_670 rfl (lv_at hl 1 rfl) ?_
                          refine lv_iload hx hb dL_law_671 (lv_at hl 6 rfl) ?_
                          refine lv_iconst (v := 3) hx hb dL_law_673 (by decide) ?_
                          refine lv_iadd hx hb dL_law_674 ?_
                          obtain ⟨h9, hP⟩ := hP
                          refine va_sld hx hb hX hbl hbA hS h9 dL_law_675 ?_
                          obtain ⟨hcs, hP⟩ := hP
                          refine r_callVi (rest := []) (T := TX9) (N := 14) X hM hS (ct_X9_board hst v2 (xs (v5 + 1).toNatClampNeg) (xs (v5 + 2).toNatClampNeg) (xs (v5 + 3).toNatClampNeg)) hP mV_L_127 rfl rfl rfl hl.1 (Nat.le_of_ble_eq_true rfl) ⟨⟨by decide, by decide⟩, hcs⟩ dL_law_676 (fun r30 M H locs hM hS hP => ?_)
                          refine lv_istore (lv' := [(7, .int r30), (6, .int r29), (0, .ref b), (1, .ref v1), (2, .ref v2), (3, .ref v3), (4, .ref v4), (5, .int v5)]) hx hb dL_law_679 hl (by decide) rfl (fun ls hl => ?_)
                          refine lv_aload_n hx hb dL_law_681 rfl (lv_at hl 4 rfl) ?_
                          obtain ⟨hcs, hP⟩ := hP
                          refine r_callVi (rest := []) (T := TX9) (N := 14) X hM hS (ct_X9_thrown hst v2) hP mV_L_101 rfl rfl rfl hl.1 (Nat.le_of_ble_eq_true rfl) ⟨⟨by decide, by decide⟩, hcs⟩ dL_law_682 (fun r31 M H locs hM hS hP => ?_)
                          refine lv_iload hx hb dL_law_685 (lv_at hl 1 rfl) ?_
                          refine lv_icmp_eq (tgt := 692) hx hb dL_law_687 (by decide) (fun hc => ?_) (fun hc => ?_)
                          · have hP := mIf_t hP hc
                            refine lv_iload hx hb dL_law_692 (lv_at hl 1 rfl) ?_
                            refine lv_if_ne (tgt := 709) hx hb dL_law_694 (by decide) (fun hc => ?_) (fun hc => ?_)
                            · have hP := mIf_f hP hc
                              exact hb709 (u + 1) (w + 6) v1 v2 v3 v4 v5 _ _ _ _ hM hS (lv_sub hl [2, 3, 4, 5, 6, 7] rfl) hP
                            · have hP := mIf_t hP hc
                              refine lv_aload_n hx hb dL_law_697 rfl (lv_at hl 5 rfl) ?_
                              refine lv_iconst (v := 0) hx hb dL_law_698 (by decide) ?_
                              refine r_ldl X hM hP dL_law_699 (fun x32 hP => ?_)
                              refine lv_iload hx hb dL_law_700 (lv_at hl 0 rfl) ?_
                              refine lv_i2l hx hb dL_law_702 rfl ?_
                              refine W.lcmp hx hb dL_law_703 ?_
                              refine lv_if_eq (tgt := 709) hx hb dL_law_704 (by decide) (fun hc => ?_) (fun hc => ?_)
                              · have hP := mIf_t hP hc
                                exact hb709 (u + 1) (w + 6) v1 v2 v3 v4 v5 _ _ _ _ hM hS (lv_sub hl [2, 3, 4, 5, 6, 7] rfl) hP
                              · have hP := mIf_f hP hc
                                refine lv_iconst (v := 0) hx hb dL_law_707 (by decide) ?_
                                exact hP.2.elim
                          · have hP := mIf_f hP hc
                            refine lv_iconst (v := 0) hx hb dL_law_690 (by decide) ?_
                            exact hP.2.elim
                        · have hP := mIf_f hP hv
                          by_cases hv : ((xs v5.toNatClampNeg) &&& 31) = 8
                          · have hP := mIf_t hP hv
                            refine lv_tableIn (off := 667) (tgt := 712) hx hb dL_law_45 (by rw [hv]; decide) (by rw [hv]; decide) (by rw [hv]; decide) (by decide) ?_
                            refine lv_aload_n hx hb dL_law_712 rfl (lv_at hl 1 rfl) ?_
                            obtain ⟨hcs, hP⟩ := hP
                            refine r_callVi (rest := []) (T := TX5) (N := 18) X hM hS (ct_X5_empty hst v1) hP mV_L_128 rfl rfl rfl hl.1 (Nat.le_of_ble_eq_true rfl) ⟨⟨by decide, by decide⟩, hcs⟩ dL_law_713 (fun r33 M H locs hM hS hP => ?_)
                            refine lv_aload_n hx hb dL_law_716 rfl (lv_at hl 2 rfl) ?_
                            obtain ⟨hcs, hP⟩ := hP
                            refine r_callVi (rest := [.int r33]) (T := TX9) (N := 14) X hM hS (ct_X9_empty hst v2) hP mV_L_131 rfl rfl rfl hl.1 (Nat.le_of_ble_eq_true rfl) ⟨⟨by decide, by decide⟩, hcs⟩ dL_law_717 (fun r34 M H locs hM hS hP => ?_)
                            refine lv_icmp_eq (tgt := 1909) hx hb dL_law_720 (by decide) (fun hc => ?_) (fun hc => ?_)
                            · have hP := mIf_t hP hc
                              exact hb1909 u w v1 v2 v3 v4 v5 _ _ _ _ hM hS (lv_sub hl [0, 1, 2, 3, 4, 5] rfl) hP
                            · have hP := mIf_f hP hc
                              refine lv_iconst (v := 0) hx hb dL_law_723 (by decide) ?_
                              exact hP.2.elim
                          · have hP := mIf_f hP hv
                            by_cases hv : ((xs v5.toNatClampNeg) &&& 31) = 9
                            · have hP := mIf_t hP hv
                              refine lv_tableIn (off := 680) (tgt := 725) hx hb dL_law_45 (by rw [hv]; decide) (by rw [hv]; decide) (by rw [hv]; decide) (by decide) ?_
                              refine lv_aload_n hx hb dL_law_725 rfl (lv_at hl 1 rfl) ?_
                              refine lv_aload_n hx hb dL_law_726 rfl (lv_at hl 0 rfl) ?_
                              refine lv_iload hx hb dL_law_727 (lv_at hl 5 rfl) ?_
                              refine lv_iconst (v := 1) hx hb dL_law_729 (by decide) ?_
                              refine lv_iadd hx hb dL_law_730 ?_
                              obtain ⟨h9, hP⟩ := hP
                              refine va_sld hx hb hX hbl hbA hS h9 dL_law_731 ?_
                              refine lv_aload_n hx hb dL_law_732 rfl (lv_at hl 0 rfl) ?_
                              refine lv_iload hx hb dL_law_733 (lv_at hl 5 rfl) ?_
                              refine lv_iconst (v := 2) hx hb dL_law_735 (by decide) ?_
                              refine lv_iadd hx hb dL_law_736 ?_
                              obtain ⟨h9, hP⟩ := hP
                              refine va_sld hx hb hX hbl hbA hS h9 dL_law_737 ?_
                              refine lv_aload_n hx hb dL_law_738 rfl (lv_at hl 3 rfl) ?_
                              obtain ⟨hcs, hP⟩ := hP
                              refine r_callW (rest := []) X hM hS (ct_L_fly hst v1 (xs (v5 + 1).toNatClampNeg) (xs (v5 + 2).toNatClampNeg) v3) hP mW_L_fly rfl rfl hl.1 (Nat.le_of_ble_eq_true rfl) ⟨⟨by decide, by decide⟩, hcs⟩ dL_law_739 (fun r35 M H locs hM hS hP => ?_)
                              refine lv_istore (lv' := [(6, .int r35), (0, .ref b), (1, .ref v1), (2, .ref v2), (3, .ref v3), (4, .ref v4), (5, .int v5)]) hx hb dL_law_742 hl (by decide) rfl (fun ls hl => ?_)
                              refine lv_aload_n hx hb dL_law_744 rfl (lv_at hl 3 rfl) ?_
                              refine lv_aload_n hx hb dL_law_745 rfl (lv_at hl 1 rfl) ?_
                              refine lv_iload hx hb dL_law_746 (lv_at hl 6 rfl) ?_
                              refine lv_iconst (v := 1) hx hb dL_law_748 (by decide) ?_
                              refine lv_iadd hx hb dL_law_749 ?_
                              obtain ⟨h9, hP⟩ := hP
                              refine va_sld hx hb hX hbl hbA hS h9 dL_law_750 ?_
                              refine lv_aload_n hx hb dL_law_751 rfl (lv_at hl 1 rfl) ?_
                              refine lv_iload hx hb dL_law_752 (lv_at hl 6 rfl) ?_
                              refine lv_iconst (v := 2) hx hb dL_law_754 (by decide) ?_
                              refine lv_iadd hx hb dL_law_755 ?_
                              obtain ⟨h9, hP⟩ := hP
                              refine va_sld hx hb hX hbl hbA hS h9 dL_law_756 ?_
                              obtain ⟨hcs, hP⟩ := hP
                              refine r_callVi (rest := []) (T := TX9) (N := 14) X hM hS (ct_X9_fly hst v2 (xs (v5 + 1).toNatClampNeg) (xs (v5 + 2).toNatClampNeg)) hP mV_L_134 rfl rfl rfl hl.1 (Nat.le_of_ble_eq_true rfl) ⟨⟨by decide, by decide⟩, hcs⟩ dL_law_757 (fun r36 M H locs hM hS hP => ?_)
                              refine lv_istore (lv' := [(7, .int r36), (6, .int r35), (0, .ref b), (1, .ref v1), (2, .ref v2), (3, .ref v3), (4, .ref v4), (5, .int v5)]) hx hb dL_law_760 hl (by decide) rfl (fun ls hl => ?_)
                              refine lv_aload_n hx hb dL_law_762 rfl (lv_at hl 4 rfl) ?_
                              obtain ⟨hcs, hP⟩ := hP
                              refine r_callVi (rest := []) (T := TX9) (N := 14) X hM hS (ct_X9_thrown hst v2) hP mV_L_101 rfl rfl rfl hl.1 (Nat.le_of_ble_eq_true rfl) ⟨⟨by decide, by decide⟩, hcs⟩ dL_law_763 (fun r37 M H locs hM hS hP => ?_)
                              refine lv_iload hx hb dL_law_766 (lv_at hl 1 rfl) ?_
                              refine lv_icmp_eq (tgt := 773) hx hb dL_law_768 (by decide) (fun hc => ?_) (fun hc => ?_)
                              · have hP := mIf_t hP hc
                                refine lv_iload hx hb dL_law_773 (lv_at hl 1 rfl) ?_
                                refine lv_if_ne (tgt := 790) hx hb dL_law_775 (by decide) (fun hc => ?_) (fun hc => ?_)
                                · have hP := mIf_f hP hc
                                  exact hb790 (u + 1 + 20) (w + 6 + 183) v1 v2 v3 v4 v5 _ _ _ _ hM hS (lv_sub hl [2, 3, 4, 5, 6, 7] rfl) hP
                                · have hP := mIf_t hP hc
                                  refine lv_aload_n hx hb dL_law_778 rfl (lv_at hl 5 rfl) ?_
                                  refine lv_iconst (v := 0) hx hb dL_law_779 (by decide) ?_
                                  refine r_ldl X hM hP dL_law_780 (fun x38 hP => ?_)
                                  refine lv_iload hx hb dL_law_781 (lv_at hl 0 rfl) ?_
                                  refine lv_i2l hx hb dL_law_783 rfl ?_
                                  refine W.lcmp hx hb dL_law_784 ?_
                                  refine lv_if_eq (tgt := 790) hx hb dL_law_785 (by decide) (fun hc => ?_) (fun hc => ?_)
                                  · have hP := mIf_t hP hc
                                    exact hb790 (u + 1 + 20) (w + 6 + 183) v1 v2 v3 v4 v5 _ _ _ _ hM hS (lv_sub hl [2, 3, 4, 5, 6, 7] rfl) hP
                                  · have hP := mIf_f hP hc
                                    refine lv_iconst (v := 0) hx hb dL_law_788 (by decide) ?_
                                    exact hP.2.elim
                              · have hP := mIf_f hP hc
                                refine lv_iconst (v := 0) hx hb dL_law_771 (by decide) ?_
                                exact hP.2.elim
                            · have hP := mIf_f hP hv
                              by_cases hv : ((xs v5.toNatClampNeg) &&& 31) = 10
                              · have hP := mIf_t hP hv
                                refine lv_tableIn (off := 748) (tgt := 793) hx hb dL_law_45 (by rw [hv]; decide) (by rw [hv]; decide) (by rw [hv]; decide) (by decide) ?_
                                refine lv_aload_n hx hb dL_law_793 rfl (lv_at hl 1 rfl) ?_
                                refine lv_aload_n hx hb dL_law_794 rfl (lv_at hl 0 rfl) ?_
                                refine lv_iload hx hb dL_law_795 (lv_at hl 5 rfl) ?_
                                refine lv_iconst (v := 1) hx hb dL_law_797 (by decide) ?_
                                refine lv_iadd hx hb dL_law_798 ?_
                                obtain ⟨h9, hP⟩ := hP
                                refine va_sld hx hb hX hbl hbA hS h9 dL_law_799 ?_
                                refine lv_if_eq (tgt := 807) hx hb dL_law_800 (by decide) (fun hc => ?_) (fun hc => ?_)
                                · have hP := mIf_t hP hc
                                  refine lv_iconst (v := 0) hx hb dL_law_807 (by decide) ?_
                                  exact hb808 u w v1 v2 v3 v4 v5 v1 0 _ _ _ _ hM hS (lv_sub hl [0, 1, 2, 3, 4, 5] rfl) hP
                                · have hP := mIf_f hP hc
                                  refine lv_iconst (v := 1) hx hb dL_law_803 (by decide) ?_
                                  refine lv_goto (tgt := 808) hx hb dL_law_804 (by decide) ?_
                                  exact hb808 u w v1 v2 v3 v4 v5 v1 1 _ _ _ _ hM hS (lv_sub hl [0, 1, 2, 3, 4, 5] rfl) hP
                              · have hP := mIf_f hP hv
                                by_cases hv : ((xs v5.toNatClampNeg) &&& 31) = 11
                                · have hP := mIf_t hP hv
                                  refine lv_tableIn (off := 789) (tgt := 834) hx hb dL_law_45 (by rw [hv]; decide) (by rw [hv]; decide) (by rw [hv]; decide) (by decide) ?_
                                  refine lv_aload_n hx hb dL_law_834 rfl (lv_at hl 1 rfl) ?_
                                  obtain ⟨hcs, hP⟩ := hP
                                  refine r_callVi (rest := []) (T := TX5) (N := 18) X hM hS (ct_X5_gong hst v1) hP mV_L_140 rfl rfl rfl hl.1 (Nat.le_of_ble_eq_true rfl) ⟨⟨by decide, by decide⟩, hcs⟩ dL_law_835 (fun r39 M H locs hM hS hP => ?_)
                                  refine lv_aload_n hx hb dL_law_838 rfl (lv_at hl 2 rfl) ?_
                                  obtain ⟨hcs, hP⟩ := hP
                                  refine r_callVi (rest := [.int r39]) (T := TX9) (N := 14) X hM hS (ct_X9_gong hst v2) hP mV_L_143 rfl rfl rfl hl.1 (Nat.le_of_ble_eq_true rfl) ⟨⟨by decide, by decide⟩, hcs⟩ dL_law_839 (fun r40 M H locs hM hS hP => ?_)
                                  refine lv_icmp_eq (tgt := 1909) hx hb dL_law_842 (by decide) (fun hc => ?_) (fun hc => ?_)
                                  · have hP := mIf_t hP hc
                                    exact hb1909 u w v1 v2 v3 v4 v5 _ _ _ _ hM hS (lv_sub hl [0, 1, 2, 3, 4, 5] rfl) hP
                                  · have hP := mIf_f hP hc
                                    refine lv_iconst (v := 0) hx hb dL_law_845 (by decide) ?_
                                    exact hP.2.elim
                                · have hP := mIf_f hP hv
                                  by_cases hv : ((xs v5.toNatClampNeg) &&& 31) = 12
                                  · have hP := mIf_t hP hv
                                    refine lv_tableIn (off := 802) (tgt := 847) hx hb dL_law_45 (by rw [hv]; decide) (by rw [hv]; decide) (by rw [hv]; decide) (by decide) ?_
                                    refine lv_aload_n hx hb dL_law_847 rfl (lv_at hl 1 rfl) ?_
                                    refine lv_aload_n hx hb dL_law_848 rfl (lv_at hl 0 rfl) ?_
                                    refine lv_iload hx hb dL_law_849 (lv_at hl 5 rfl) ?_
                                    refine lv_iconst (v := 1) hx hb dL_law_851 (by decide) ?_
                                    refine lv_iadd hx hb dL_law_852 ?_
                                    obtain ⟨h9, hP⟩ := hP
                                    refine va_sld hx hb hX hbl hbA hS h9 dL_law_853 ?_
                                    refine lv_aload_n hx hb dL_law_854 rfl (lv_at hl 0 rfl) ?_
                                    refine lv_iload hx hb dL_law_855 (lv_at hl 5 rfl) ?_
                                    refine lv_iconst (v := 2) hx hb dL_law_857 (by decide) ?_
                                    refine lv_iadd hx hb dL_law_858 ?_
                                    obtain ⟨h9, hP⟩ := hP
                                    refine va_sld hx hb hX hbl hbA hS h9 dL_law_859 ?_
                                    refine lv_aload_n hx hb dL_law_860 rfl (lv_at hl 3 rfl) ?_
                                    obtain ⟨hcs, hP⟩ := hP
                                    refine r_callW (rest := []) X hM hS (ct_L_ofJumper hst v1 (xs (v5 + 1).toNatClampNeg) (xs (v5 + 2).toNatClampNeg) v3) hP mW_L_ofJumper rfl rfl hl.1 (Nat.le_of_ble_eq_true rfl) ⟨⟨by decide, by decide⟩, hcs⟩ dL_law_861 (fun r41 M H locs hM hS hP => ?_)
                                    refine lv_istore (lv' := [(6, .int r41), (0, .ref b), (1, .ref v1), (2, .ref v2), (3, .ref v3), (4, .ref v4), (5, .int v5)]) hx hb dL_law_864 hl (by decide) rfl (fun ls hl => ?_)
                                    refine lv_aload_n hx hb dL_law_866 rfl (lv_at hl 3 rfl) ?_
                                    refine lv_aload_n hx hb dL_law_867 rfl (lv_at hl 1 rfl) ?_
                                    refine lv_iload hx hb dL_law_868 (lv_at hl 6 rfl) ?_
                                    refine lv_iconst (v := 1) hx hb dL_law_870 (by decide) ?_
                                    refine lv_iadd hx hb dL_law_871 ?_
                                    obtain ⟨h9, hP⟩ := hP
                                    refine va_sld hx hb hX hbl hbA hS h9 dL_law_872 ?_
                                    refine lv_aload_n hx hb dL_law_873 rfl (lv_at hl 1 rfl) ?_
                                    refine lv_iload hx hb dL_law_874 (lv_at hl 6 rfl) ?_
                                    refine lv_iconst (v := 2) hx hb dL_law_876 (by decide) ?_
                                    refine lv_iadd hx hb dL_law_877 ?_
                                    obtain ⟨h9, hP⟩ := hP
                                    refine va_sld hx hb hX hbl hbA hS h9 dL_law_878 ?_
                                    obtain ⟨hcs, hP⟩ := hP
                                    refine r_callVi (rest := []) (T := TX9) (N := 14) X hM hS (ct_X9_ofJumper hst v2 (xs (v5 + 1).toNatClampNeg) (xs (v5 + 2).toNatClampNeg)) hP mV_L_146 rfl rfl rfl hl.1 (Nat.le_of_ble_eq_true rfl) ⟨⟨by decide, by decide⟩, hcs⟩ dL_law_879 (fun r42 M H locs hM hS hP => ?_)
                                    refine lv_istore (lv' := [(7, .int r42), (6, .int r41), (0, .ref b), (1, .ref v1), (2, .ref v2), (3, .ref v3), (4, .ref v4), (5, .int v5)]) hx hb dL_law_882 hl (by decide) rfl (fun ls hl => ?_)
                                    refine lv_aload_n hx hb dL_law_884 rfl (lv_at hl 4 rfl) ?_
                                    obtain ⟨hcs, hP⟩ := hP
                                    refine r_callVi (rest := []) (T := TX9) (N := 14) X hM hS (ct_X9_thrown hst v2) hP mV_L_101 rfl rfl rfl hl.1 (Nat.le_of_ble_eq_true rfl) ⟨⟨by decide, by decide⟩, hcs⟩ dL_law_885 (fun r43 M H locs hM hS hP => ?_)
                                    refine lv_iload hx hb dL_law_888 (lv_at hl 1 rfl) ?_
                                    refine lv_icmp_eq (tgt := 895) hx hb dL_law_890 (by decide) (fun hc => ?_) (fun hc => ?_)
                                    · have hP := mIf_t hP hc
                                      refine lv_iload hx hb dL_law_895 (lv_at hl 1 rfl) ?_
                                      refine lv_if_ne (tgt := 912) hx hb dL_law_897 (by decide) (fun hc => ?_) (fun hc => ?_)
                                      · have hP := mIf_f hP hc
                                        exact hb912 (u + 1 + 1) (w + 6 + 9) v1 v2 v3 v4 v5 _ _ _ _ hM hS (lv_sub hl [2, 3, 4, 5, 6, 7] rfl) hP
                                      · have hP := mIf_t hP hc
                                        refine lv_aload_n hx hb dL_law_900 rfl (lv_at hl 5 rfl) ?_
                                        refine lv_iconst (v := 0) hx hb dL_law_901 (by decide) ?_
                                        refine r_ldl X hM hP dL_law_902 (fun x44 hP => ?_)
                                        refine lv_iload hx hb dL_law_903 (lv_at hl 0 rfl) ?_
                                        refine lv_i2l hx hb dL_law_905 rfl ?_
                                        refine W.lcmp hx hb dL_law_906 ?_
                                        refine lv_if_eq (tgt := 912) hx hb dL_law_907 (by decide) (fun hc => ?_) (fun hc => ?_)
                                        · have hP := mIf_t hP hc
                                          exact hb912 (u + 1 + 1) (w + 6 + 9) v1 v2 v3 v4 v5 _ _ _ _ hM hS (lv_sub hl [2, 3, 4, 5, 6, 7] rfl) hP
                                        · have hP := mIf_f hP hc
                                          refine lv_iconst (v := 0) hx hb dL_law_910 (by decide) ?_
                                          exact hP.2.elim
                                    · have hP := mIf_f hP hc
                                      refine lv_iconst (v := 0) hx hb dL_law_893 (by decide) ?_
                                      exact hP.2.elim
                                  · have hP := mIf_f hP hv
                                    by_cases hv : ((xs v5.toNatClampNeg) &&& 31) = 13
                                    · have hP := mIf_t hP hv
                                      refine lv_tableIn (off := 870) (tgt := 915) hx hb dL_law_45 (by rw [hv]; decide) (by rw [hv]; decide) (by rw [hv]; decide) (by decide) ?_
                                      refine lv_aload_n hx hb dL_law_915 rfl (lv_at hl 1 rfl) ?_
                                      refine lv_aload_n hx hb dL_law_916 rfl (lv_at hl 0 rfl) ?_
                                      refine lv_iload hx hb dL_law_917 (lv_at hl 5 rfl) ?_
                                      refine lv_iconst (v := 1) hx hb dL_law_919 (by decide) ?_
                                      refine lv_iadd hx hb dL_law_920 ?_
                                      obtain ⟨h9, hP⟩ := hP
                                      refine va_sld hx hb hX hbl hbA hS h9 dL_law_921 ?_
                                      refine lv_aload hx hb dL_law_922 (lv_at hl 4 rfl) ?_
                                      obtain ⟨hcs, hP⟩ := hP
                                      refine r_callW (rest := []) X hM hS (ct_L_loading hst v1 (xs (v5 + 1).toNatClampNeg) v4) hP mW_L_loading rfl rfl hl.1 (Nat.le_of_ble_eq_true rfl) ⟨⟨by decide, by decide⟩, hcs⟩ dL_law_924 (fun r45 M H locs hM hS hP => ?_)
                                      refine lv_istore (lv' := [(6, .int r45), (0, .ref b), (1, .ref v1), (2, .ref v2), (3, .ref v3), (4, .ref v4), (5, .int v5)]) hx hb dL_law_927 hl (by decide) rfl (fun ls hl => ?_)
                                      refine lv_aload_n hx hb dL_law_929 rfl (lv_at hl 3 rfl) ?_
                                      refine lv_aload_n hx hb dL_law_930 rfl (lv_at hl 1 rfl) ?_
                                      refine lv_iload hx hb dL_law_931 (lv_at hl 6 rfl) ?_
                                      refine lv_iconst (v := 1) hx hb dL_law_933 (by decide) ?_
                                      refine lv_iadd hx hb dL_law_934 ?_
                                      obtain ⟨h9, hP⟩ := hP
                                      refine va_sld hx hb hX hbl hbA hS h9 dL_law_935 ?_
                                      obtain ⟨hcs, hP⟩ := hP
                                      refine r_callVd (rest := []) (T := TX9) (N := 14) X hM hS (ct_X9_loading__ hst v2 (xs (v5 + 1).toNatClampNeg)) hP mV_L_150 rfl rfl rfl hl.1 (Nat.le_of_ble_eq_true rfl) ⟨⟨by decide, by decide⟩, hcs⟩ dL_law_936 (fun r46 M H locs hM hS hP => ?_)
                                      refine lv_dstore (lv' := [(7, .double r46), (6, .int r45), (0, .ref b), (1, .ref v1), (2, .ref v2), (3, .ref v3), (4, .ref v4), (5, .int v5)]) hx hb dL_law_939 hl (by decide) rfl (fun ls hl => ?_)
                                      refine lv_aload_n hx hb dL_law_941 rfl (lv_at hl 4 rfl) ?_
                                      obtain ⟨hcs, hP⟩ := hP
                                      refine r_callVi (rest := []) (T := TX9) (N := 14) X hM hS (ct_X9_thrown hst v2) hP mV_L_101 rfl rfl rfl hl.1 (Nat.le_of_ble_eq_true rfl) ⟨⟨by decide, by decide⟩, hcs⟩ dL_law_942 (fun r47 M H locs hM hS hP => ?_)
                                      refine lv_iload hx hb dL_law_945 (lv_at hl 1 rfl) ?_
                                      refine lv_icmp_eq (tgt := 952) hx hb dL_law_947 (by decide) (fun hc => ?_) (fun hc => ?_)
                                      · have hP := mIf_t hP hc
                                        refine lv_iload hx hb dL_law_952 (lv_at hl 1 rfl) ?_
                                        refine lv_if_ne (tgt := 989) hx hb dL_law_954 (by decide) (fun hc => ?_) (fun hc => ?_)
                                        · have hP := mIf_f hP hc
                                          exact hb989 (u + 1) (w + 6) v1 v2 v3 v4 v5 _ _ _ _ hM hS (lv_sub hl [2, 3, 4, 5, 6, 7] rfl) hP
                                        · have hP := mIf_t hP hc
                                          refine lv_aload hx hb dL_law_957 (lv_at hl 6 rfl) ?_
                                          refine lv_iconst (v := 0) hx hb dL_law_959 (by decide) ?_
                                          refine r_ldd X hM hP dL_law_960 (fun x48 hP => ?_)
                                          refine lv_dload hx hb dL_law_961 (lv_at hl 0 rfl) ?_
                                          refine lv_dcmp hx hb dL_law_963 ?_
                                          refine lv_if_eq (tgt := 989) hx hb dL_law_964 (by decide) (fun hc => ?_) (fun hc => ?_)
                                          · have hP := mIf_t hP hc
                                            exact hb989 (u + 1) (w + 6) v1 v2 v3 v4 v5 _ _ _ _ hM hS (lv_sub hl [2, 3, 4, 5, 6, 7] rfl) hP
                                          · have hP := mIf_f hP hc
                                            refine lv_aload hx hb dL_law_967 (lv_at hl 6 rfl) ?_
                                            refine lv_iconst (v := 0) hx hb dL_law_969 (by decide) ?_
                                            refine r_ldd X hM hP dL_law_970 (fun x49 hP => ?_)
                                            refine lv_aload hx hb dL_law_971 (lv_at hl 6 rfl) ?_
                                            refine lv_iconst (v := 0) hx hb dL_law_973 (by decide) ?_
                                            refine r_ldd X hM hP dL_law_974 (fun x50 hP => ?_)
                                            refine lv_dcmp hx hb dL_law_975 ?_
                                            refine lv_if_eq (tgt := 987) hx hb dL_law_976 (by decide) (fun hc => ?_) (fun hc => ?_)
                                            · have hP := mIf_t hP hc
                                              exact hb987 (u + 1) (w + 6) _ _ _ _ hM hS (lv_sub hl [] rfl) hP
                                            · have hP := mIf_f hP hc
                                              refine lv_dload hx hb dL_law_979 (lv_at hl 0 rfl) ?_
                                              refine lv_dload hx hb dL_law_981 (lv_at hl 0 rfl) ?_
                                              refine lv_dcmp hx hb dL_law_983 ?_
                                              refine lv_if_ne (tgt := 989) hx hb dL_law_984 (by decide) (fun hc => ?_) (fun hc => ?_)
                                              · have hP := mIf_f hP hc
                                                exact hb989 (u + 1) (w + 6) v1 v2 v3 v4 v5 _ _ _ _ hM hS (lv_sub hl [2, 3, 4, 5, 6, 7] rfl) hP
                                              · have hP := mIf_t hP hc
                                                exact hb987 (u + 1) (w + 6) _ _ _ _ hM hS (lv_sub hl [] rfl) hP
                                      · have hP := mIf_f hP hc
                                        refine lv_iconst (v := 0) hx hb dL_law_950 (by decide) ?_
                                        exact hP.2.elim
                                    · have hP := mIf_f hP hv
                                      by_cases hv : ((xs v5.toNatClampNeg) &&& 31) = 14
                                      · have hP := mIf_t hP hv
                                        refine lv_tableIn (off := 947) (tgt := 992) hx hb dL_law_45 (by rw [hv]; decide) (by rw [hv]; decide) (by rw [hv]; decide) (by decide) ?_
                                        refine lv_aload_n hx hb dL_law_992 rfl (lv_at hl 1 rfl) ?_
                                        refine lv_aload_n hx hb dL_law_993 rfl (lv_at hl 0 rfl) ?_
                                        refine lv_iload hx hb dL_law_994 (lv_at hl 5 rfl) ?_
                                        refine lv_iconst (v := 1) hx hb dL_law_996 (by decide) ?_
                                        refine lv_iadd hx hb dL_law_997 ?_
                                        obtain ⟨h9, hP⟩ := hP
                                        refine va_sld hx hb hX hbl hbA hS h9 dL_law_998 ?_
                                        refine lv_aload_n hx hb dL_law_999 rfl (lv_at hl 0 rfl) ?_
                                        refine lv_iload hx hb dL_law_1000 (lv_at hl 5 rfl) ?_
                                        refine lv_iconst (v := 2) hx hb dL_law_1002 (by decide) ?_
                                        refine lv_iadd hx hb dL_law_1003 ?_
                                        obtain ⟨h9, hP⟩ := hP
                                        refine va_sld hx hb hX hbl hbA hS h9 dL_law_1004 ?_
                                        refine lv_if_eq (tgt := 1012) hx hb dL_law_1005 (by decide) (fun hc => ?_) (fun hc => ?_)
                                        · have hP := mIf_t hP hc
                                          refine lv_iconst (v := 0) hx hb dL_law_1012 (by decide) ?_
                                          exact hb1013 u w v1 v2 v3 v4 v5 v1 (xs (v5 + 1).toNatClampNeg) 0 _ _ _ _ hM hS (lv_sub hl [0, 1, 2, 3, 4, 5] rfl) hP
                                        · have hP := mIf_f hP hc
                                          refine lv_iconst (v := 1) hx hb dL_law_1008 (by decide) ?_
                                          refine lv_goto (tgt := 1013) hx hb dL_law_1009 (by decide) ?_
                                          exact hb1013 u w v1 v2 v3 v4 v5 v1 (xs (v5 + 1).toNatClampNeg) 1 _ _ _ _ hM hS (lv_sub hl [0, 1, 2, 3, 4, 5] rfl) hP
                                      · have hP := mIf_f hP hv
                                        by_cases hv : ((xs v5.toNatClampNeg) &&& 31) = 15
                                        · have hP := mIf_t hP hv
                                          refine lv_tableIn (off := 1052) (tgt := 1097) hx hb dL_law_45 (by rw [hv]; decide) (by rw [hv]; decide) (by rw [hv]; decide) (by decide) ?_
                                          refine lv_aload_n hx hb dL_law_1097 rfl (lv_at hl 1 rfl) ?_
                                          refine lv_aload_n hx hb dL_law_1098 rfl (lv_at hl 0 rfl) ?_
                                          refine lv_iload hx hb dL_law_1099 (lv_at hl 5 rfl) ?_
                                          refine lv_iconst (v := 1) hx hb dL_law_1101 (by decide) ?_
                                          refine lv_iadd hx hb dL_law_1102 ?_
                                          obtain ⟨h9, hP⟩ := hP
                                          refine va_sld hx hb hX hbl hbA hS h9 dL_law_1103 ?_
                                          refine lv_aload_n hx hb dL_law_1104 rfl (lv_at hl 3 rfl) ?_
                                          obtain ⟨hcs, hP⟩ := hP
                                          refine r_callW (rest := []) X hM hS (ct_L_refuses hst v1 (xs (v5 + 1).toNatClampNeg) v3) hP mW_L_refuses rfl rfl hl.1 (Nat.le_of_ble_eq_true rfl) ⟨⟨by decide, by decide⟩, hcs⟩ dL_law_1105 (fun r51 M H locs hM hS hP => ?_)
                                          refine lv_istore (lv' := [(6, .int r51), (0, .ref b), (1, .ref v1), (2, .ref v2), (3, .ref v3), (4, .ref v4), (5, .int v5)]) hx hb dL_law_1108 hl (by decide) rfl (fun ls hl => ?_)
                                          refine lv_aload_n hx hb dL_law_1110 rfl (lv_at hl 3 rfl) ?_
                                          refine lv_aload_n hx hb dL_law_1111 rfl (lv_at hl 1 rfl) ?_
                                          refine lv_iload hx hb dL_law_1112 (lv_at hl 6 rfl) ?_
                                          refine lv_iconst (v := 1) hx hb dL_law_1114 (by decide) ?_
                                          refine lv_iadd hx hb dL_law_1115 ?_
                                          obtain ⟨h9, hP⟩ := hP
                                          refine va_sld hx hb hX hbl hbA hS h9 dL_law_1116 ?_
                                          obtain ⟨hcs, hP⟩ := hP
                                          refine r_callVi (rest := []) (T := TX9) (N := 14) X hM hS (ct_X9_refuses hst v2 (xs (v5 + 1).toNatClampNeg)) hP mV_L_157 rfl rfl rfl hl.1 (Nat.le_of_ble_eq_true rfl) ⟨⟨by decide, by decide⟩, hcs⟩ dL_law_1117 (fun r52 M H locs hM hS hP => ?_)
                                          refine lv_istore (lv' := [(7, .int r52), (6, .int r51), (0, .ref b), (1, .ref v1), (2, .ref v2), (3, .ref v3), (4, .ref v4), (5, .int v5)]) hx hb dL_law_1120 hl (by decide) rfl (fun ls hl => ?_)
                                          refine lv_aload_n hx hb dL_law_1122 rfl (lv_at hl 4 rfl) ?_
                                          obtain ⟨hcs, hP⟩ := hP
                                          refine r_callVi (rest := []) (T := TX9) (N := 14) X hM hS (ct_X9_thrown hst v2) hP mV_L_101 rfl rfl rfl hl.1 (Nat.le_of_ble_eq_true rfl) ⟨⟨by decide, by decide⟩, hcs⟩ dL_law_1123 (fun r53 M H locs hM hS hP => ?_)
                                          refine lv_iload hx hb dL_law_1126 (lv_at hl 1 rfl) ?_
                                          refine lv_icmp_eq (tgt := 1133) hx hb dL_law_1128 (by decide) (fun hc => ?_) (fun hc => ?_)
                                          · have hP := mIf_t hP hc
                                            refine lv_iload hx hb dL_law_1133 (lv_at hl 1 rfl) ?_
                                            refine lv_if_ne (tgt := 1150) hx hb dL_law_1135 (by decide) (fun hc => ?_) (fun hc => ?_)
                                            · have hP := mIf_f hP hc
                                              exact hb1150 (u + 1) (w + 6) v1 v2 v3 v4 v5 _ _ _ _ hM hS (lv_sub hl [2, 3, 4, 5, 6, 7] rfl) hP
                                            · have hP := mIf_t hP hc
                                              refine lv_aload_n hx hb dL_law_1138 rfl (lv_at hl 5 rfl) ?_
                                              refine lv_iconst (v := 0) hx hb dL_law_1139 (by decide) ?_
                                              refine r_ldl X hM hP dL_law_1140 (fun x54 hP => ?_)
                                              refine lv_iload hx hb dL_law_1141 (lv_at hl 0 rfl) ?_
                                              refine lv_i2l hx hb dL_law_1143 rfl ?_
                                              refine W.lcmp hx hb dL_law_1144 ?_
                                              refine lv_if_eq (tgt := 1150) hx hb dL_law_1145 (by decide) (fun hc => ?_) (fun hc => ?_)
                                              · have hP := mIf_t hP hc
                                                exact hb1150 (u + 1) (w + 6) v1 v2 v3 v4 v5 _ _ _ _ hM hS (lv_sub hl [2, 3, 4, 5, 6, 7] rfl) hP
                                              · have hP := mIf_f hP hc
                                                refine lv_iconst (v := 0) hx hb dL_law_1148 (by decide) ?_
                                                exact hP.2.elim
                                          · have hP := mIf_f hP hc
                                            refine lv_iconst (v := 0) hx hb dL_law_1131 (by decide) ?_
                                            exact hP.2.elim
                                        · have hP := mIf_f hP hv
                                          by_cases hv : ((xs v5.toNatClampNeg) &&& 31) = 16
                                          · have hP := mIf_t hP hv
                                            refine lv_tableIn (off := 1108) (tgt := 1153) hx hb dL_law_45 (by rw [hv]; decide) (by rw [hv]; decide) (by rw [hv]; decide) (by decide) ?_
                                            refine lv_aload_n hx hb dL_law_1153 rfl (lv_at hl 1 rfl) ?_
                                            refine lv_aload_n hx hb dL_law_1154 rfl (lv_at hl 0 rfl) ?_
                                            refine lv_iload hx hb dL_law_1155 (lv_at hl 5 rfl) ?_
                                            refine lv_iconst (v := 1) hx hb dL_law_1157 (by decide) ?_
                                            refine lv_iadd hx hb dL_law_1158 ?_
                                            obtain ⟨h9, hP⟩ := hP
                                            refine va_sld hx hb hX hbl hbA hS h9 dL_law_1159 ?_
                                            refine lv_aload_n hx hb dL_law_1160 rfl (lv_at hl 0 rfl) ?_
                                            refine lv_iload hx hb dL_law_1161 (lv_at hl 5 rfl) ?_
                                            refine lv_iconst (v := 2) hx hb dL_law_1163 (by decide) ?_
                                            refine lv_iadd hx hb dL_law_1164 ?_
                                            obtain ⟨h9, hP⟩ := hP
                                            refine va_sld hx hb hX hbl hbA hS h9 dL_law_1165 ?_
                                            refine lv_aload_n hx hb dL_law_1166 rfl (lv_at hl 3 rfl) ?_
                                            obtain ⟨hcs, hP⟩ := hP
                                            refine r_callW (rest := []) X hM hS (ct_L_ofRig hst v1 (xs (v5 + 1).toNatClampNeg) (xs (v5 + 2).toNatClampNeg) v3) hP mW_L_ofRig rfl rfl hl.1 (Nat.le_of_ble_eq_true rfl) ⟨⟨by decide, by decide⟩, hcs⟩ dL_law_1167 (fun r55 M H locs hM hS hP => ?_)
                                            refine lv_istore (lv' := [(6, .int r55), (0, .ref b), (1, .ref v1), (2, .ref v2), (3, .ref v3), (4, .ref v4), (5, .int v5)]) hx hb dL_law_1170 hl (by decide) rfl (fun ls hl => ?_)
                                            refine lv_aload_n hx hb dL_law_1172 rfl (lv_at hl 3 rfl) ?_
                                            refine lv_aload_n hx hb dL_law_1173 rfl (lv_at hl 1 rfl) ?_
                                            refine lv_iload hx hb dL_law_1174 (lv_at hl 6 rfl) ?_
                                            refine lv_iconst (v := 1) hx hb dL_law_1176 (by decide) ?_
                                            refine lv_iadd hx hb dL_law_1177 ?_
                                            obtain ⟨h9, hP⟩ := hP
                                            refine va_sld hx hb hX hbl hbA hS h9 dL_law_1178 ?_
                                            refine lv_aload_n hx hb dL_law_1179 rfl (lv_at hl 1 rfl) ?_
                                            refine lv_iload hx hb dL_law_1180 (lv_at hl 6 rfl) ?_
                                            refine lv_iconst (v := 2) hx hb dL_law_1182 (by decide) ?_
                                            refine lv_iadd hx hb dL_law_1183 ?_
                                            obtain ⟨h9, hP⟩ := hP
                                            refine va_sld hx hb hX hbl hbA hS h9 dL_law_1184 ?_
                                            obtain ⟨hcs, hP⟩ := hP
                                            refine r_callVi (rest := []) (T := TX9) (N := 14) X hM hS (ct_X9_ofRig hst v2 (xs (v5 + 1).toNatClampNeg) (xs (v5 + 2).toNatClampNeg)) hP mV_L_160 rfl rfl rfl hl.1 (Nat.le_of_ble_eq_true rfl) ⟨⟨by decide, by decide⟩, hcs⟩ dL_law_1185 (fun r56 M H locs hM hS hP => ?_)
                                            refine lv_istore (lv' := [(7, .int r56), (6, .int r55), (0, .ref b), (1, .ref v1), (2, .ref v2), (3, .ref v3), (4, .ref v4), (5, .int v5)]) hx hb dL_law_1188 hl (by decide) rfl (fun ls hl => ?_)
                                            refine lv_aload_n hx hb dL_law_1190 rfl (lv_at hl 4 rfl) ?_
                                            obtain ⟨hcs, hP⟩ := hP
                                            refine r_callVi (rest := []) (T := TX9) (N := 14) X hM hS (ct_X9_thrown hst v2) hP mV_L_101 rfl rfl rfl hl.1 (Nat.le_of_ble_eq_true rfl) ⟨⟨by decide, by decide⟩, hcs⟩ dL_law_1191 (fun r57 M H locs hM hS hP => ?_)
                                            refine lv_iload hx hb dL_law_1194 (lv_at hl 1 rfl) ?_
                                            refine lv_icmp_eq (tgt := 1201) hx hb dL_law_1196 (by decide) (fun hc => ?_) (fun hc => ?_)
                                            · have hP := mIf_t hP hc
                                              refine lv_iload hx hb dL_law_1201 (lv_at hl 1 rfl) ?_
                                              refine lv_if_ne (tgt := 1218) hx hb dL_law_1203 (by decide) (fun hc => ?_) (fun hc => ?_)
                                              · have hP := mIf_f hP hc
                                                exact hb1218 (u + 1 + 1) (w + 6 + 5) v1 v2 v3 v4 v5 _ _ _ _ hM hS (lv_sub hl [2, 3, 4, 5, 6, 7] rfl) hP
                                              · have hP := mIf_t hP hc
                                                refine lv_aload_n hx hb dL_law_1206 rfl (lv_at hl 5 rfl) ?_
                                                refine lv_iconst (v := 0) hx hb dL_law_1207 (by decide) ?_
                                                refine r_ldl X hM hP dL_law_1208 (fun x58 hP => ?_)
                                                refine lv_iload hx hb dL_law_1209 (lv_at hl 0 rfl) ?_
                                                refine lv_i2l hx hb dL_law_1211 rfl ?_
                                                refine W.lcmp hx hb dL_law_1212 ?_
                                                refine lv_if_eq (tgt := 1218) hx hb dL_law_1213 (by decide) (fun hc => ?_) (fun hc => ?_)
                                                · have hP := mIf_t hP hc
                                                  exact hb1218 (u + 1 + 1) (w + 6 + 5) v1 v2 v3 v4 v5 _ _ _ _ hM hS (lv_sub hl [2, 3, 4, 5, 6, 7] rfl) hP
                                                · have hP := mIf_f hP hc
                                                  refine lv_iconst (v := 0) hx hb dL_law_1216 (by decide) ?_
                                                  exact hP.2.elim
                                            · have hP := mIf_f hP hc
                                              refine lv_iconst (v := 0) hx hb dL_law_1199 (by decide) ?_
                                              exact hP.2.elim
                                          · have hP := mIf_f hP hv
                                            by_cases hv : ((xs v5.toNatClampNeg) &&& 31) = 17
                                            · have hP := mIf_t hP hv
                                              refine lv_tableIn (off := 1176) (tgt := 1221) hx hb dL_law_45 (by rw [hv]; decide) (by rw [hv]; decide) (by rw [hv]; decide) (by decide) ?_
                                              refine lv_aload_n hx hb dL_law_1221 rfl (lv_at hl 1 rfl) ?_
                                              refine lv_aload_n hx hb dL_law_1222 rfl (lv_at hl 0 rfl) ?_
                                              refine lv_iload hx hb dL_law_1223 (lv_at hl 5 rfl) ?_
                                              refine lv_iconst (v := 1) hx hb dL_law_1225 (by decide) ?_
                                              refine lv_iadd hx hb dL_law_1226 ?_
                                              obtain ⟨h9, hP⟩ := hP
                                              refine va_sld hx hb hX hbl hbA hS h9 dL_law_1227 ?_
                                              refine lv_aload hx hb dL_law_1228 (lv_at hl 4 rfl) ?_
                                              obtain ⟨hcs, hP⟩ := hP
                                              refine r_callW (rest := []) X hM hS (ct_L_wear hst v1 (xs (v5 + 1).toNatClampNeg) v4) hP mW_L_wear rfl rfl hl.1 (Nat.le_of_ble_eq_true rfl) ⟨⟨by decide, by decide⟩, hcs⟩ dL_law_1230 (fun r59 M H locs hM hS hP => ?_)
                                              refine lv_istore (lv' := [(6, .int r59), (0, .ref b), (1, .ref v1), (2, .ref v2), (3, .ref v3), (4, .ref v4), (5, .int v5)]) hx hb dL_law_1233 hl (by decide) rfl (fun ls hl => ?_)
                                              refine lv_aload_n hx hb dL_law_1235 rfl (lv_at hl 3 rfl) ?_
                                              refine lv_aload_n hx hb dL_law_1236 rfl (lv_at hl 1 rfl) ?_
                                              refine lv_iload hx hb dL_law_1237 (lv_at hl 6 rfl) ?_
                                              refine lv_iconst (v := 1) hx hb dL_law_1239 (by decide) ?_
                                              refine lv_iadd hx hb dL_law_1240 ?_
                                              obtain ⟨h9, hP⟩ := hP
                                              refine va_sld hx hb hX hbl hbA hS h9 dL_law_1241 ?_
                                              obtain ⟨hcs, hP⟩ := hP
                                              refine r_callVd (rest := []) (T := TX9) (N := 14) X hM hS (ct_X9_wear hst v2 (xs (v5 + 1).toNatClampNeg)) hP mV_L_163 rfl rfl rfl hl.1 (Nat.le_of_ble_eq_true rfl) ⟨⟨by decide, by decide⟩, hcs⟩ dL_law_1242 (fun r60 M H locs hM hS hP => ?_)
                                              refine lv_dstore (lv' := [(7, .double r60), (6, .int r59), (0, .ref b), (1, .ref v1), (2, .ref v2), (3, .ref v3), (4, .ref v4), (5, .int v5)]) hx hb dL_law_1245 hl (by decide) rfl (fun ls hl => ?_)
                                              refine lv_aload_n hx hb dL_law_1247 rfl (lv_at hl 4 rfl) ?_
                                              obtain ⟨hcs, hP⟩ := hP
                                              refine r_callVi (rest := []) (T := TX9) (N := 14) X hM hS (ct_X9_thrown hst v2) hP mV_L_101 rfl rfl rfl hl.1 (Nat.le_of_ble_eq_true rfl) ⟨⟨by decide, by decide⟩, hcs⟩ dL_law_1248 (fun r61 M H locs hM hS hP => ?_)
                                              refine lv_iload hx hb dL_law_1251 (lv_at hl 1 rfl) ?_
                                              refine lv_icmp_eq (tgt := 1258) hx hb dL_law_1253 (by decide) (fun hc => ?_) (fun hc => ?_)
                                              · have hP := mIf_t hP hc
                                                refine lv_iload hx hb dL_law_1258 (lv_at hl 1 rfl) ?_
                                                refine lv_if_ne (tgt := 1295) hx hb dL_law_1260 (by decide) (fun hc => ?_) (fun hc => ?_)
                                                · have hP := mIf_f hP hc
                                                  exact hb1295 (u + 1) (w + 6) v1 v2 v3 v4 v5 _ _ _ _ hM hS (lv_sub hl [2, 3, 4, 5, 6, 7] rfl) hP
                                                · have hP := mIf_t hP hc
                                                  refine lv_aload hx hb dL_law_1263 (lv_at hl 6 rfl) ?_
                                                  refine lv_iconst (v := 0) hx hb dL_law_1265 (by decide) ?_
                                                  refine r_ldd X hM hP dL_law_1266 (fun x62 hP => ?_)
                                                  refine lv_dload hx hb dL_law_1267 (lv_at hl 0 rfl) ?_
                                                  refine lv_dcmp hx hb dL_law_1269 ?_
                                                  refine lv_if_eq (tgt := 1295) hx hb dL_law_1270 (by decide) (fun hc => ?_) (fun hc => ?_)
                                                  · have hP := mIf_t hP hc
                                                    exact hb1295 (u + 1) (w + 6) v1 v2 v3 v4 v5 _ _ _ _ hM hS (lv_sub hl [2, 3, 4, 5, 6, 7] rfl) hP
                                                  · have hP := mIf_f hP hc
                                                    refine lv_aload hx hb dL_law_1273 (lv_at hl 6 rfl) ?_
                                                    refine lv_iconst (v := 0) hx hb dL_law_1275 (by decide) ?_
                                                    refine r_ldd X hM hP dL_law_1276 (fun x63 hP => ?_)
                                                    refine lv_aload hx hb dL_law_1277 (lv_at hl 6 rfl) ?_
                                                    refine lv_iconst (v := 0) hx hb dL_law_1279 (by decide) ?_
                                                    refine r_ldd X hM hP dL_law_1280 (fun x64 hP => ?_)
                                                    refine lv_dcmp hx hb dL_law_1281 ?_
                                                    refine lv_if_eq (tgt := 1293) hx hb dL_law_1282 (by decide) (fun hc => ?_) (fun hc => ?_)
                                                    · have hP := mIf_t hP hc
                                                      exact hb1293 (u + 1) (w + 6) _ _ _ _ hM hS (lv_sub hl [] rfl) hP
                                                    · have hP := mIf_f hP hc
                                                      refine lv_dload hx hb dL_law_1285 (lv_at hl 0 rfl) ?_
                                                      refine lv_dload hx hb dL_law_1287 (lv_at hl 0 rfl) ?_
                                                      refine lv_dcmp hx hb dL_law_1289 ?_
                                                      refine lv_if_ne (tgt := 1295) hx hb dL_law_1290 (by decide) (fun hc => ?_) (fun hc => ?_)
                                                      · have hP := mIf_f hP hc
                                                        exact hb1295 (u + 1) (w + 6) v1 v2 v3 v4 v5 _ _ _ _ hM hS (lv_sub hl [2, 3, 4, 5, 6, 7] rfl) hP
                                                      · have hP := mIf_t hP hc
                                                        exact hb1293 (u + 1) (w + 6) _ _ _ _ hM hS (lv_sub hl [] rfl) hP
                                              · have hP := mIf_f hP hc
                                                refine lv_iconst (v := 0) hx hb dL_law_1256 (by decide) ?_
                                                exact hP.2.elim
                                            · have hP := mIf_f hP hv
                                              by_cases hv : ((xs v5.toNatClampNeg) &&& 31) = 18
                                              · have hP := mIf_t hP hv
                                                refine lv_tableIn (off := 1253) (tgt := 1298) hx hb dL_law_45 (by rw [hv]; decide) (by rw [hv]; decide) (by rw [hv]; decide) (by decide) ?_
                                                refine lv_aload_n hx hb dL_law_1298 rfl (lv_at hl 1 rfl) ?_
                                                refine lv_aload_n hx hb dL_law_1299 rfl (lv_at hl 0 rfl) ?_
                                                refine lv_iload hx hb dL_law_1300 (lv_at hl 5 rfl) ?_
                                                refine lv_iconst (v := 1) hx hb dL_law_1302 (by decide) ?_
                                                refine lv_iadd hx hb dL_law_1303 ?_
                                                obtain ⟨h9, hP⟩ := hP
                                                refine va_sld hx hb hX hbl hbA hS h9 dL_law_1304 ?_
                                                refine lv_aload_n hx hb dL_law_1305 rfl (lv_at hl 0 rfl) ?_
                                                refine lv_iload hx hb dL_law_1306 (lv_at hl 5 rfl) ?_
                                                refine lv_iconst (v := 2) hx hb dL_law_1308 (by decide) ?_
                                                refine lv_iadd hx hb dL_law_1309 ?_
                                                obtain ⟨h9, hP⟩ := hP
                                                refine va_sld hx hb hX hbl hbA hS h9 dL_law_1310 ?_
                                                refine lv_if_eq (tgt := 1318) hx hb dL_law_1311 (by decide) (fun hc => ?_) (fun hc => ?_)
                                                · have hP := mIf_t hP hc
                                                  refine lv_iconst (v := 0) hx hb dL_law_1318 (by decide) ?_
                                                  exact hb1319 u w v1 v2 v3 v4 v5 v1 (xs (v5 + 1).toNatClampNeg) 0 _ _ _ _ hM hS (lv_sub hl [0, 1, 2, 3, 4, 5] rfl) hP
                                                · have hP := mIf_f hP hc
                                                  refine lv_iconst (v := 1) hx hb dL_law_1314 (by decide) ?_
                                                  refine lv_goto (tgt := 1319) hx hb dL_law_1315 (by decide) ?_
                                                  exact hb1319 u w v1 v2 v3 v4 v5 v1 (xs (v5 + 1).toNatClampNeg) 1 _ _ _ _ hM hS (lv_sub hl [0, 1, 2, 3, 4, 5] rfl) hP
                                              · have hP := mIf_f hP hv
                                                by_cases hv : ((xs v5.toNatClampNeg) &&& 31) = 19
                                                · have hP := mIf_t hP hv
                                                  refine lv_tableIn (off := 1337) (tgt := 1382) hx hb dL_law_45 (by rw [hv]; decide) (by rw [hv]; decide) (by rw [hv]; decide) (by decide) ?_
                                                  refine lv_aload_n hx hb dL_law_1382 rfl (lv_at hl 1 rfl) ?_
                                                  refine lv_aload_n hx hb dL_law_1383 rfl (lv_at hl 0 rfl) ?_
                                                  refine lv_iload hx hb dL_law_1384 (lv_at hl 5 rfl) ?_
                                                  refine lv_iconst (v := 1) hx hb dL_law_1386 (by decide) ?_
                                                  refine lv_iadd hx hb dL_law_1387 ?_
                                                  obtain ⟨h9, hP⟩ := hP
                                                  refine va_sld hx hb hX hbl hbA hS h9 dL_law_1388 ?_
                                                  refine lv_aload_n hx hb dL_law_1389 rfl (lv_at hl 3 rfl) ?_
                                                  obtain ⟨hcs, hP⟩ := hP
                                                  refine r_callW (rest := []) X hM hS (ct_L_many hst v1 (xs (v5 + 1).toNatClampNeg) v3) hP mW_L_many rfl rfl hl.1 (Nat.le_of_ble_eq_true rfl) ⟨⟨by decide, by decide⟩, hcs⟩ dL_law_1390 (fun r65 M H locs hM hS hP => ?_)
                                                  refine lv_istore (lv' := [(6, .int r65), (0, .ref b), (1, .ref v1), (2, .ref v2), (3, .ref v3), (4, .ref v4), (5, .int v5)]) hx hb dL_law_1393 hl (by decide) rfl (fun ls hl => ?_)
                                                  refine lv_aload_n hx hb dL_law_1395 rfl (lv_at hl 3 rfl) ?_
                                                  refine lv_aload_n hx hb dL_law_1396 rfl (lv_at hl 1 rfl) ?_
                                                  refine lv_iload hx hb dL_law_1397 (lv_at hl 6 rfl) ?_
                                                  refine lv_iconst (v := 1) hx hb dL_law_1399 (by decide) ?_
                                                  refine lv_iadd hx hb dL_law_1400 ?_
                                                  obtain ⟨h9, hP⟩ := hP
                                                  refine va_sld hx hb hX hbl hbA hS h9 dL_law_1401 ?_
                                                  obtain ⟨hcs, hP⟩ := hP
                                                  refine r_callVi (rest := []) (T := TX9) (N := 14) X hM hS (ct_X9_many hst v2 (xs (v5 + 1).toNatClampNeg)) hP mV_L_170 rfl rfl rfl hl.1 (Nat.le_of_ble_eq_true rfl) ⟨⟨by decide, by decide⟩, hcs⟩ dL_law_1402 (fun r66 M H locs hM hS hP => ?_)
                                                  refine lv_istore (lv' := [(7, .int r66), (6, .int r65), (0, .ref b), (1, .ref v1), (2, .ref v2), (3, .ref v3), (4, .ref v4), (5, .int v5)]) hx hb dL_law_1405 hl (by decide) rfl (fun ls hl => ?_)
                                                  refine lv_aload_n hx hb dL_law_1407 rfl (lv_at hl 4 rfl) ?_
                                                  obtain ⟨hcs, hP⟩ := hP
                                                  refine r_callVi (rest := []) (T := TX9) (N := 14) X hM hS (ct_X9_thrown hst v2) hP mV_L_101 rfl rfl rfl hl.1 (Nat.le_of_ble_eq_true rfl) ⟨⟨by decide, by decide⟩, hcs⟩ dL_law_1408 (fun r67 M H locs hM hS hP => ?_)
                                                  refine lv_iload hx hb dL_law_1411 (lv_at hl 1 rfl) ?_
                                                  refine lv_icmp_eq (tgt := 1418) hx hb dL_law_1413 (by decide) (fun hc => ?_) (fun hc => ?_)
                                                  · have hP := mIf_t hP hc
                                                    refine lv_iload hx hb dL_law_1418 (lv_at hl 1 rfl) ?_
                                                    refine lv_if_ne (tgt := 1435) hx hb dL_law_1420 (by decide) (fun hc => ?_) (fun hc => ?_)
                                                    · have hP := mIf_f hP hc
                                                      exact hb1435 (u + 1 + 1) (w + 6 + 13) v1 v2 v3 v4 v5 _ _ _ _ hM hS (lv_sub hl [2, 3, 4, 5, 6, 7] rfl) hP
                                                    · have hP := mIf_t hP hc
                                                      refine lv_aload_n hx hb dL_law_1423 rfl (lv_at hl 5 rfl) ?_
                                                      refine lv_iconst (v := 0) hx hb dL_law_1424 (by decide) ?_
                                                      refine r_ldl X hM hP dL_law_1425 (fun x68 hP => ?_)
                                                      refine lv_iload hx hb dL_law_1426 (lv_at hl 0 rfl) ?_
                                                      refine lv_i2l hx hb dL_law_1428 rfl ?_
                                                      refine W.lcmp hx hb dL_law_1429 ?_
                                                      refine lv_if_eq (tgt := 1435) hx hb dL_law_1430 (by decide) (fun hc => ?_) (fun hc => ?_)
                                                      · have hP := mIf_t hP hc
                                                        exact hb1435 (u + 1 + 1) (w + 6 + 13) v1 v2 v3 v4 v5 _ _ _ _ hM hS (lv_sub hl [2, 3, 4, 5, 6, 7] rfl) hP
                                                      · have hP := mIf_f hP hc
                                                        refine lv_iconst (v := 0) hx hb dL_law_1433 (by decide) ?_
                                                        exact hP.2.elim
                                                  · have hP := mIf_f hP hc
                                                    refine lv_iconst (v := 0) hx hb dL_law_1416 (by decide) ?_
                                                    exact hP.2.elim
                                                · have hP := mIf_f hP hv
                                                  by_cases hv : ((xs v5.toNatClampNeg) &&& 31) = 20
                                                  · have hP := mIf_t hP hv
                                                    refine lv_tableIn (off := 1393) (tgt := 1438) hx hb dL_law_45 (by rw [hv]; decide) (by rw [hv]; decide) (by rw [hv]; decide) (by decide) ?_
                                                    refine lv_aload_n hx hb dL_law_1438 rfl (lv_at hl 1 rfl) ?_
                                                    refine lv_aload_n hx hb dL_law_1439 rfl (lv_at hl 0 rfl) ?_
                                                    refine lv_iload hx hb dL_law_1440 (lv_at hl 5 rfl) ?_
                                                    refine lv_iconst (v := 1) hx hb dL_law_1442 (by decide) ?_
                                                    refine lv_iadd hx hb dL_law_1443 ?_
                                                    obtain ⟨h9, hP⟩ := hP
                                                    refine va_sld hx hb hX hbl hbA hS h9 dL_law_1444 ?_
                                                    refine lv_aload_n hx hb dL_law_1445 rfl (lv_at hl 3 rfl) ?_
                                                    obtain ⟨hcs, hP⟩ := hP
                                                    refine r_callW (rest := []) X hM hS (ct_L_order hst v1 (xs (v5 + 1).toNatClampNeg) v3) hP mW_L_order rfl rfl hl.1 (Nat.le_of_ble_eq_true rfl) ⟨⟨by decide, by decide⟩, hcs⟩ dL_law_1446 (fun r69 M H locs hM hS hP => ?_)
                                                    refine lv_istore (lv' := [(6, .int r69), (0, .ref b), (1, .ref v1), (2, .ref v2), (3, .ref v3), (4, .ref v4), (5, .int v5)]) hx hb dL_law_1449 hl (by decide) rfl (fun ls hl => ?_)
                                                    refine lv_aload_n hx hb dL_law_1451 rfl (lv_at hl 3 rfl) ?_
                                                    refine lv_aload_n hx hb dL_law_1452 rfl (lv_at hl 1 rfl) ?_
                                                    refine lv_iload hx hb dL_law_1453 (lv_at hl 6 rfl) ?_
                                                    refine lv_iconst (v := 1) hx hb dL_law_1455 (by decide) ?_
                                                    refine lv_iadd hx hb dL_law_1456 ?_
                                                    obtain ⟨h9, hP⟩ := hP
                                                    refine va_sld hx hb hX hbl hbA hS h9 dL_law_1457 ?_
                                                    obtain ⟨hcs, hP⟩ := hP
                                                    refine r_callVi (rest := []) (T := TX9) (N := 14) X hM hS (ct_X9_order hst v2 (xs (v5 + 1).toNatClampNeg)) hP mV_L_173 rfl rfl rfl hl.1 (Nat.le_of_ble_eq_true rfl) ⟨⟨by decide, by decide⟩, hcs⟩ dL_law_1458 (fun r70 M H locs hM hS hP => ?_)
                                                    refine lv_istore (lv' := [(7, .int r70), (6, .int r69), (0, .ref b), (1, .ref v1), (2, .ref v2), (3, .ref v3), (4, .ref v4), (5, .int v5)]) hx hb dL_law_1461 hl (by decide) rfl (fun ls hl => ?_)
                                                    refine lv_aload_n hx hb dL_law_1463 rfl (lv_at hl 4 rfl) ?_
                                                    obtain ⟨hcs, hP⟩ := hP
                                                    refine r_callVi (rest := []) (T := TX9) (N := 14) X hM hS (ct_X9_thrown hst v2) hP mV_L_101 rfl rfl rfl hl.1 (Nat.le_of_ble_eq_true rfl) ⟨⟨by decide, by decide⟩, hcs⟩ dL_law_1464 (fun r71 M H locs hM hS hP => ?_)
                                                    refine lv_iload hx hb dL_law_1467 (lv_at hl 1 rfl) ?_
                                                    refine lv_icmp_eq (tgt := 1474) hx hb dL_law_1469 (by decide) (fun hc => ?_) (fun hc => ?_)
                                                    · have hP := mIf_t hP hc
                                                      refine lv_iload hx hb dL_law_1474 (lv_at hl 1 rfl) ?_
                                                      refine lv_if_ne (tgt := 1491) hx hb dL_law_1476 (by decide) (fun hc => ?_) (fun hc => ?_)
                                                      · have hP := mIf_f hP hc
                                                        exact hb1491 (u + 1) (w + 6) v1 v2 v3 v4 v5 _ _ _ _ hM hS (lv_sub hl [2, 3, 4, 5, 6, 7] rfl) hP
                                                      · have hP := mIf_t hP hc
                                                        refine lv_aload_n hx hb dL_law_1479 rfl (lv_at hl 5 rfl) ?_
                                                        refine lv_iconst (v := 0) hx hb dL_law_1480 (by decide) ?_
                                                        refine r_ldl X hM hP dL_law_1481 (fun x72 hP => ?_)
                                                        refine lv_iload hx hb dL_law_1482 (lv_at hl 0 rfl) ?_
                                                        refine lv_i2l hx hb dL_law_1484 rfl ?_
                                                        refine W.lcmp hx hb dL_law_1485 ?_
                                                        refine lv_if_eq (tgt := 1491) hx hb dL_law_1486 (by decide) (fun hc => ?_) (fun hc => ?_)
                                                        · have hP := mIf_t hP hc
                                                          exact hb1491 (u + 1) (w + 6) v1 v2 v3 v4 v5 _ _ _ _ hM hS (lv_sub hl [2, 3, 4, 5, 6, 7] rfl) hP
                                                        · have hP := mIf_f hP hc
                                                          refine lv_iconst (v := 0) hx hb dL_law_1489 (by decide) ?_
                                                          exact hP.2.elim
                                                    · have hP := mIf_f hP hc
                                                      refine lv_iconst (v := 0) hx hb dL_law_1472 (by decide) ?_
                                                      exact hP.2.elim
                                                  · have hP := mIf_f hP hv
                                                    by_cases hv : ((xs v5.toNatClampNeg) &&& 31) = 21
                                                    · have hP := mIf_t hP hv
                                                      refine lv_tableIn (off := 1449) (tgt := 1494) hx hb dL_law_45 (by rw [hv]; decide) (by rw [hv]; decide) (by rw [hv]; decide) (by decide) ?_
                                                      refine lv_aload_n hx hb dL_law_1494 rfl (lv_at hl 1 rfl) ?_
                                                      refine lv_aload_n hx hb dL_law_1495 rfl (lv_at hl 0 rfl) ?_
                                                      refine lv_iload hx hb dL_law_1496 (lv_at hl 5 rfl) ?_
                                                      refine lv_iconst (v := 1) hx hb dL_law_1498 (by decide) ?_
                                                      refine lv_iadd hx hb dL_law_1499 ?_
                                                      obtain ⟨h9, hP⟩ := hP
                                                      refine va_sld hx hb hX hbl hbA hS h9 dL_law_1500 ?_
                                                      refine lv_aload_n hx hb dL_law_1501 rfl (lv_at hl 0 rfl) ?_
                                                      refine lv_iload hx hb dL_law_1502 (lv_at hl 5 rfl) ?_
                                                      refine lv_iconst (v := 2) hx hb dL_law_1504 (by decide) ?_
                                                      refine lv_iadd hx hb dL_law_1505 ?_
                                                      obtain ⟨h9, hP⟩ := hP
                                                      refine va_sld hx hb hX hbl hbA hS h9 dL_law_1506 ?_
                                                      refine lv_aload_n hx hb dL_law_1507 rfl (lv_at hl 0 rfl) ?_
                                                      refine lv_iload hx hb dL_law_1508 (lv_at hl 5 rfl) ?_
                                                      refine lv_iconst (v := 3) hx hb dL_law_1510 (by decide) ?_
                                                      refine lv_iadd hx hb dL_law_1511 ?_
                                                      obtain ⟨h9, hP⟩ := hP
                                                      refine va_sld hx hb hX hbl hbA hS h9 dL_law_1512 ?_
                                                      refine lv_aload_n hx hb dL_law_1513 rfl (lv_at hl 0 rfl) ?_
                                                      refine lv_iload hx hb dL_law_1514 (lv_at hl 5 rfl) ?_
                                                      refine lv_iconst (v := 4) hx hb dL_law_1516 (by decide) ?_
                                                      refine lv_iadd hx hb dL_law_1517 ?_
                                                      obtain ⟨h9, hP⟩ := hP
                                                      refine va_sld hx hb hX hbl hbA hS h9 dL_law_1518 ?_
                                                      refine lv_aload_n hx hb dL_law_1519 rfl (lv_at hl 0 rfl) ?_
                                                      refine lv_iload hx hb dL_law_1520 (lv_at hl 5 rfl) ?_
                                                      refine lv_iconst (v := 5) hx hb dL_law_1522 (by decide) ?_
                                                      refine lv_iadd hx hb dL_law_1523 ?_
                                                      obtain ⟨h9, hP⟩ := hP
                                                      refine va_sld hx hb hX hbl hbA hS h9 dL_law_1524 ?_
                                                      refine lv_if_eq (tgt := 1532) hx hb dL_law_1525 (by decide) (fun hc => ?_) (fun hc => ?_)
                                                      · have hP := mIf_t hP hc
                                                        refine lv_iconst (v := 0) hx hb dL_law_1532 (by decide) ?_
                                                        exact hb1533 u w v1 v2 v3 v4 v5 v1 (xs (v5 + 1).toNatClampNeg) (xs (v5 + 2).toNatClampNeg) (xs (v5 + 3).toNatClampNeg) (xs (v5 + 4).toNatClampNeg) 0 _ _ _ _ hM hS (lv_sub hl [0, 1, 2, 3, 4, 5] rfl) hP
                                                      · have hP := mIf_f hP hc
                                                        refine lv_iconst (v := 1) hx hb dL_law_1528 (by decide) ?_
                                                        refine lv_goto (tgt := 1533) hx hb dL_law_1529 (by decide) ?_
                                                        exact hb1533 u w v1 v2 v3 v4 v5 v1 (xs (v5 + 1).toNatClampNeg) (xs (v5 + 2).toNatClampNeg) (xs (v5 + 3).toNatClampNeg) (xs (v5 + 4).toNatClampNeg) 1 _ _ _ _ hM hS (lv_sub hl [0, 1, 2, 3, 4, 5] rfl) hP
                                                    · have hP := mIf_f hP hv
                                                      by_cases hv : ((xs v5.toNatClampNeg) &&& 31) = 22
                                                      · have hP := mIf_t hP hv
                                                        refine lv_tableIn (off := 1590) (tgt := 1635) hx hb dL_law_45 (by rw [hv]; decide) (by rw [hv]; decide) (by rw [hv]; decide) (by decide) ?_
                                                        refine lv_aload_n hx hb dL_law_1635 rfl (lv_at hl 1 rfl) ?_
                                                        refine lv_aload_n hx hb dL_law_1636 rfl (lv_at hl 0 rfl) ?_
                                                        refine lv_iload hx hb dL_law_1637 (lv_at hl 5 rfl) ?_
                                                        refine lv_iconst (v := 1) hx hb dL_law_1639 (by decide) ?_
                                                        refine lv_iadd hx hb dL_law_1640 ?_
                                                        obtain ⟨h9, hP⟩ := hP
                                                        refine va_sld hx hb hX hbl hbA hS h9 dL_law_1641 ?_
                                                        refine lv_aload_n hx hb dL_law_1642 rfl (lv_at hl 0 rfl) ?_
                                                        refine lv_iload hx hb dL_law_1643 (lv_at hl 5 rfl) ?_
                                                        refine lv_iconst (v := 2) hx hb dL_law_1645 (by decide) ?_
                                                        refine lv_iadd hx hb dL_law_1646 ?_
                                                        obtain ⟨h9, hP⟩ := hP
                                                        refine va_sld hx hb hX hbl hbA hS h9 dL_law_1647 ?_
                                                        refine lv_aload_n hx hb dL_law_1648 rfl (lv_at hl 0 rfl) ?_
                                                        refine lv_iload hx hb dL_law_1649 (lv_at hl 5 rfl) ?_
                                                        refine lv_iconst (v := 3) hx hb dL_law_1651 (by decide) ?_
                                                        refine lv_iadd hx hb dL_law_1652 ?_
                                                        obtain ⟨h9, hP⟩ := hP
                                                        refine va_sld hx hb hX hbl hbA hS h9 dL_law_1653 ?_
                                                        refine lv_aload_n hx hb dL_law_1654 rfl (lv_at hl 3 rfl) ?_
                                                        obtain ⟨hcs, hP⟩ := hP
                                                        refine r_callW (rest := []) X hM hS (ct_L_takes hst v1 (xs (v5 + 1).toNatClampNeg) (xs (v5 + 2).toNatClampNeg) (xs (v5 + 3).toNatClampNeg) v3) hP mW_L_takes rfl rfl hl.1 (Nat.le_of_ble_eq_true rfl) ⟨⟨by decide, by decide⟩, hcs⟩ dL_law_1655 (fun r73 M H locs hM hS hP => ?_)
                                                        refine lv_istore (lv' := [(6, .int r73), (0, .ref b), (1, .ref v1), (2, .ref v2), (3, .ref v3), (4, .ref v4), (5, .int v5)]) hx hb dL_law_1658 hl (by decide) rfl (fun ls hl => ?_)
                                                        refine lv_aload_n hx hb dL_law_1660 rfl (lv_at hl 3 rfl) ?_
                                                        refine lv_aload_n hx hb dL_law_1661 rfl (lv_at hl 1 rfl) ?_
                                                        refine lv_iload hx hb dL_law_1662 (lv_at hl 6 rfl) ?_
                                                        refine lv_iconst (v := 1) hx hb dL_law_1664 (by decide) ?_
                                                        refine lv_iadd hx hb dL_law_1665 ?_
                                                        obtain ⟨h9, hP⟩ := hP
                                                        refine va_sld hx hb hX hbl hbA hS h9 dL_law_1666 ?_
                                                        refine lv_aload_n hx hb dL_law_1667 rfl (lv_at hl 1 rfl) ?_
                                                        refine lv_iload hx hb dL_law_1668 (lv_at hl 6 rfl) ?_
                                                        refine lv_iconst (v := 2) hx hb dL_law_1670 (by decide) ?_
                                                        refine lv_iadd hx hb dL_law_1671 ?_
                                                        obtain ⟨h9, hP⟩ := hP
                                                        refine va_sld hx hb hX hbl hbA hS h9 dL_law_1672 ?_
                                                        refine lv_aload_n hx hb dL_law_1673 rfl (lv_at hl 1 rfl) ?_
                                                        refine lv_iload hx hb dL_law_1674 (lv_at hl 6 rfl) ?_
                                                        refine lv_iconst (v := 3) hx hb dL_law_1676 (by decide) ?_
                                                        refine lv_iadd hx hb dL_law_1677 ?_
                                                        obtain ⟨h9, hP⟩ := hP
                                                        refine va_sld hx hb hX hbl hbA hS h9 dL_law_1678 ?_
                                                        obtain ⟨hcs, hP⟩ := hP
                                                        refine r_callVi (rest := []) (T := TX9) (N := 14) X hM hS (ct_X9_takes hst v2 (xs (v5 + 1).toNatClampNeg) (xs (v5 + 2).toNatClampNeg) (xs (v5 + 3).toNatClampNeg)) hP mV_L_180 rfl rfl rfl hl.1 (Nat.le_of_ble_eq_true rfl) ⟨⟨by decide, by decide⟩, hcs⟩ dL_law_1679 (fun r74 M H locs hM hS hP => ?_)
                                                        refine lv_istore (lv' := [(7, .int r74), (6, .int r73), (0, .ref b), (1, .ref v1), (2, .ref v2), (3, .ref v3), (4, .ref v4), (5, .int v5)]) hx hb dL_law_1682 hl (by decide) rfl (fun ls hl => ?_)
                                                        refine lv_aload_n hx hb dL_law_1684 rfl (lv_at hl 4 rfl) ?_
                                                        obtain ⟨hcs, hP⟩ := hP
                                                        refine r_callVi (rest := []) (T := TX9) (N := 14) X hM hS (ct_X9_thrown hst v2) hP mV_L_101 rfl rfl rfl hl.1 (Nat.le_of_ble_eq_true rfl) ⟨⟨by decide, by decide⟩, hcs⟩ dL_law_1685 (fun r75 M H locs hM hS hP => ?_)
                                                        refine lv_iload hx hb dL_law_1688 (lv_at hl 1 rfl) ?_
                                                        refine lv_icmp_eq (tgt := 1695) hx hb dL_law_1690 (by decide) (fun hc => ?_) (fun hc => ?_)
                                                        · have hP := mIf_t hP hc
                                                          refine lv_iload hx hb dL_law_1695 (lv_at hl 1 rfl) ?_
                                                          refine lv_if_ne (tgt := 1712) hx hb dL_law_1697 (by decide) (fun hc => ?_) (fun hc => ?_)
                                                          · have hP := mIf_f hP hc
                                                            exact hb1712 (u + 1 + 1) (w + 6 + 13) v1 v2 v3 v4 v5 _ _ _ _ hM hS (lv_sub hl [2, 3, 4, 5, 6, 7] rfl) hP
                                                          · have hP := mIf_t hP hc
                                                            refine lv_aload_n hx hb dL_law_1700 rfl (lv_at hl 5 rfl) ?_
                                                            refine lv_iconst (v := 0) hx hb dL_law_1701 (by decide) ?_
                                                            refine r_ldl X hM hP dL_law_1702 (fun x76 hP => ?_)
                                                            refine lv_iload hx hb dL_law_1703 (lv_at hl 0 rfl) ?_
                                                            refine lv_i2l hx hb dL_law_1705 rfl ?_
                                                            refine W.lcmp hx hb dL_law_1706 ?_
                                                            refine lv_if_eq (tgt := 1712) hx hb dL_law_1707 (by decide) (fun hc => ?_) (fun hc => ?_)
                                                            · have hP := mIf_t hP hc
                                                              exact hb1712 (u + 1 + 1) (w + 6 + 13) v1 v2 v3 v4 v5 _ _ _ _ hM hS (lv_sub hl [2, 3, 4, 5, 6, 7] rfl) hP
                                                            · have hP := mIf_f hP hc
                                                              refine lv_iconst (v := 0) hx hb dL_law_1710 (by decide) ?_
                                                              exact hP.2.elim
                                                        · have hP := mIf_f hP hc
                                                          refine lv_iconst (v := 0) hx hb dL_law_1693 (by decide) ?_
                                                          exact hP.2.elim
                                                      · have hP := mIf_f hP hv
                                                        by_cases hv : ((xs v5.toNatClampNeg) &&& 31) = 23
                                                        · have hP := mIf_t hP hv
                                                          refine lv_tableIn (off := 1670) (tgt := 1715) hx hb dL_law_45 (by rw [hv]; decide) (by rw [hv]; decide) (by rw [hv]; decide) (by decide) ?_
                                                          refine lv_aload_n hx hb dL_law_1715 rfl (lv_at hl 1 rfl) ?_
                                                          refine lv_aload_n hx hb dL_law_1716 rfl (lv_at hl 0 rfl) ?_
                                                          refine lv_iload hx hb dL_law_1717 (lv_at hl 5 rfl) ?_
                                                          refine lv_iconst (v := 1) hx hb dL_law_1719 (by decide) ?_
                                                          refine lv_iadd hx hb dL_law_1720 ?_
                                                          obtain ⟨h9, hP⟩ := hP
                                                          refine va_sld hx hb hX hbl hbA hS h9 dL_law_1721 ?_
                                                          refine lv_aload_n hx hb dL_law_1722 rfl (lv_at hl 3 rfl) ?_
                                                          obtain ⟨hcs, hP⟩ := hP
                                                          refine r_callW (rest := []) X hM hS (ct_L_spot hst v1 (xs (v5 + 1).toNatClampNeg) v3) hP mW_L_spot rfl rfl hl.1 (Nat.le_of_ble_eq_true rfl) ⟨⟨by decide, by decide⟩, hcs⟩ dL_law_1723 (fun r77 M H locs hM hS hP => ?_)
                                                          refine lv_istore (lv' := [(6, .int r77), (0, .ref b), (1, .ref v1), (2, .ref v2), (3, .ref v3), (4, .ref v4), (5, .int v5)]) hx hb dL_law_1726 hl (by decide) rfl (fun ls hl => ?_)
                                                          refine lv_aload_n hx hb dL_law_1728 rfl (lv_at hl 3 rfl) ?_
                                                          refine lv_aload_n hx hb dL_law_1729 rfl (lv_at hl 1 rfl) ?_
                                                          refine lv_iload hx hb dL_law_1730 (lv_at hl 6 rfl) ?_
                                                          refine lv_iconst (v := 1) hx hb dL_law_1732 (by decide) ?_
                                                          refine lv_iadd hx hb dL_law_1733 ?_
                                                          obtain ⟨h9, hP⟩ := hP
                                                          refine va_sld hx hb hX hbl hbA hS h9 dL_law_1734 ?_
                                                          obtain ⟨hcs, hP⟩ := hP
                                                          refine r_callVi (rest := []) (T := TX9) (N := 14) X hM hS (ct_X9_spot hst v2 (xs (v5 + 1).toNatClampNeg)) hP mV_L_183 rfl rfl rfl hl.1 (Nat.le_of_ble_eq_true rfl) ⟨⟨by decide, by decide⟩, hcs⟩ dL_law_1735 (fun r78 M H locs hM hS hP => ?_)
                                                          refine lv_istore (lv' := [(7, .int r78), (6, .int r77), (0, .ref b), (1, .ref v1), (2, .ref v2), (3, .ref v3), (4, .ref v4), (5, .int v5)]) hx hb dL_law_1738 hl (by decide) rfl (fun ls hl => ?_)
                                                          refine lv_aload_n hx hb dL_law_1740 rfl (lv_at hl 4 rfl) ?_
                                                          obtain ⟨hcs, hP⟩ := hP
                                                          refine r_callVi (rest := []) (T := TX9) (N := 14) X hM hS (ct_X9_thrown hst v2) hP mV_L_101 rfl rfl rfl hl.1 (Nat.le_of_ble_eq_true rfl) ⟨⟨by decide, by decide⟩, hcs⟩ dL_law_1741 (fun r79 M H locs hM hS hP => ?_)
                                                          refine lv_iload hx hb dL_law_1744 (lv_at hl 1 rfl) ?_
                                                          refine lv_icmp_eq (tgt := 1751) hx hb dL_law_1746 (by decide) (fun hc => ?_) (fun hc => ?_)
                                                          · have hP := mIf_t hP hc
                                                            refine lv_iload hx hb dL_law_1751 (lv_at hl 1 rfl) ?_
                                                            refine lv_if_ne (tgt := 1768) hx hb dL_law_1753 (by decide) (fun hc => ?_) (fun hc => ?_)
                                                            · have hP := mIf_f hP hc
                                                              exact hb1768 (u + 1 + 440) (w + 6 + 4026) v1 v2 v3 v4 v5 _ _ _ _ hM hS (lv_sub hl [2, 3, 4, 5, 6, 7] rfl) hP
                                                            · have hP := mIf_t hP hc
                                                              refine lv_aload_n hx hb dL_law_1756 rfl (lv_at hl 5 rfl) ?_
                                                              refine lv_iconst (v := 0) hx hb dL_law_1757 (by decide) ?_
                                                              refine r_ldl X hM hP dL_law_1758 (fun x80 hP => ?_)
                                                              refine lv_iload hx hb dL_law_1759 (lv_at hl 0 rfl) ?_
                                                              refine lv_i2l hx hb dL_law_1761 rfl ?_
                                                              refine W.lcmp hx hb dL_law_1762 ?_
                                                              refine lv_if_eq (tgt := 1768) hx hb dL_law_1763 (by decide) (fun hc => ?_) (fun hc => ?_)
                                                              · have hP := mIf_t hP hc
                                                                exact hb1768 (u + 1 + 440) (w + 6 + 4026) v1 v2 v3 v4 v5 _ _ _ _ hM hS (lv_sub hl [2, 3, 4, 5, 6, 7] rfl) hP
                                                              · have hP := mIf_f hP hc
                                                                refine lv_iconst (v := 0) hx hb dL_law_1766 (by decide) ?_
                                                                exact hP.2.elim
                                                          · have hP := mIf_f hP hc
                                                            refine lv_iconst (v := 0) hx hb dL_law_1749 (by decide) ?_
                                                            exact hP.2.elim
                                                        · have hP := mIf_f hP hv
                                                          by_cases hv : ((xs v5.toNatClampNeg) &&& 31) = 24
                                                          · have hP := mIf_t hP hv
                                                            refine lv_tableIn (off := 1726) (tgt := 1771) hx hb dL_law_45 (by rw [hv]; decide) (by rw [hv]; decide) (by rw [hv]; decide) (by decide) ?_
                                                            refine lv_aload_n hx hb dL_law_1771 rfl (lv_at hl 1 rfl) ?_
                                                            refine lv_aload_n hx hb dL_law_1772 rfl (lv_at hl 0 rfl) ?_
                                                            refine lv_iload hx hb dL_law_1773 (lv_at hl 5 rfl) ?_
                                                            refine lv_iconst (v := 1) hx hb dL_law_1775 (by decide) ?_
                                                            refine lv_iadd hx hb dL_law_1776 ?_
                                                            obtain ⟨h9, hP⟩ := hP
                                                            refine va_sld hx hb hX hbl hbA hS h9 dL_law_1777 ?_
                                                            refine lv_aload_n hx hb dL_law_1778 rfl (lv_at hl 0 rfl) ?_
                                                            refine lv_iload hx hb dL_law_1779 (lv_at hl 5 rfl) ?_
                                                            refine lv_iconst (v := 2) hx hb dL_law_1781 (by decide) ?_
                                                            refine lv_iadd hx hb dL_law_1782 ?_
                                                            obtain ⟨h9, hP⟩ := hP
                                                            refine va_sld hx hb hX hbl hbA hS h9 dL_law_1783 ?_
                                                            refine lv_aload_n hx hb dL_law_1784 rfl (lv_at hl 3 rfl) ?_
                                                            obtain ⟨hcs, hP⟩ := hP
                                                            refine r_callW (rest := []) X hM hS (ct_L_wouldMeet hst v1 (xs (v5 + 1).toNatClampNeg) (xs (v5 + 2).toNatClampNeg) v3) hP mW_L_wouldMeet rfl rfl hl.1 (Nat.le_of_ble_eq_true rfl) ⟨⟨by decide, by decide⟩, hcs⟩ dL_law_1785 (fun r81 M H locs hM hS hP => ?_)
                                                            refine lv_istore (lv' := [(6, .int r81), (0, .ref b), (1, .ref v1), (2, .ref v2), (3, .ref v3), (4, .ref v4), (5, .int v5)]) hx hb dL_law_1788 hl (by decide) rfl (fun ls hl => ?_)
                                                            refine lv_aload_n hx hb dL_law_1790 rfl (lv_at hl 3 rfl) ?_
                                                            refine lv_aload_n hx hb dL_law_1791 rfl (lv_at hl 1 rfl) ?_
                                                            refine lv_iload hx hb dL_law_1792 (lv_at hl 6 rfl) ?_
                                                            refine lv_iconst (v := 1) hx hb dL_law_1794 (by decide) ?_
                                                            refine lv_iadd hx hb dL_law_1795 ?_
                                                            obtain ⟨h9, hP⟩ := hP
                                                            refine va_sld hx hb hX hbl hbA hS h9 dL_law_1796 ?_
                                                            refine lv_aload_n hx hb dL_law_1797 rfl (lv_at hl 1 rfl) ?_
                                                            refine lv_iload hx hb dL_law_1798 (lv_at hl 6 rfl) ?_
                                                            refine lv_iconst (v := 2) hx hb dL_law_1800 (by decide) ?_
                                                            refine lv_iadd hx hb dL_law_1801 ?_
                                                            obtain ⟨h9, hP⟩ := hP
                                                            refine va_sld hx hb hX hbl hbA hS h9 dL_law_1802 ?_
                                                            obtain ⟨hcs, hP⟩ := hP
                                                            refine r_callVi (rest := []) (T := TX9) (N := 14) X hM hS (ct_X9_wouldMeet hst v2 (xs (v5 + 1).toNatClampNeg) (xs (v5 + 2).toNatClampNeg)) hP mV_L_186 rfl rfl rfl hl.1 (Nat.le_of_ble_eq_true rfl) ⟨⟨by decide, by decide⟩, hcs⟩ dL_law_1803 (fun r82 M H locs hM hS hP => ?_)
                                                            refine lv_istore (lv' := [(7, .int r82), (6, .int r81), (0, .ref b), (1, .ref v1), (2, .ref v2), (3, .ref v3), (4, .ref v4), (5, .int v5)]) hx hb dL_law_1806 hl (by decide) rfl (fun ls hl => ?_)
                                                            refine lv_aload_n hx hb dL_law_1808 rfl (lv_at hl 4 rfl) ?_
                                                            obtain ⟨hcs, hP⟩ := hP
                                                            refine r_callVi (rest := []) (T := TX9) (N := 14) X hM hS (ct_X9_thrown hst v2) hP mV_L_101 rfl rfl rfl hl.1 (Nat.le_of_ble_eq_true rfl) ⟨⟨by decide, by decide⟩, hcs⟩ dL_law_1809 (fun r83 M H locs hM hS hP => ?_)
                                                            refine lv_iload hx hb dL_law_1812 (lv_at hl 1 rfl) ?_
                                                            refine lv_icmp_eq (tgt := 1819) hx hb dL_law_1814 (by decide) (fun hc => ?_) (fun hc => ?_)
                                                            · have hP := mIf_t hP hc
                                                              refine lv_iload hx hb dL_law_1819 (lv_at hl 1 rfl) ?_
                                                              refine lv_if_ne (tgt := 1836) hx hb dL_law_1821 (by decide) (fun hc => ?_) (fun hc => ?_)
                                                              · have hP := mIf_f hP hc
                                                                exact hb1836 (u + 1 + 20) (w + 6 + 183) v1 v2 v3 v4 v5 _ _ _ _ hM hS (lv_sub hl [2, 3, 4, 5, 6, 7] rfl) hP
                                                              · have hP := mIf_t hP hc
                                                                refine lv_aload_n hx hb dL_law_1824 rfl (lv_at hl 5 rfl) ?_
                                                                refine lv_iconst (v := 0) hx hb dL_law_1825 (by decide) ?_
                                                                refine r_ldl X hM hP dL_law_1826 (fun x84 hP => ?_)
                                                                refine lv_iload hx hb dL_law_1827 (lv_at hl 0 rfl) ?_
                                                                refine lv_i2l hx hb dL_law_1829 rfl ?_
                                                                refine W.lcmp hx hb dL_law_1830 ?_
                                                                refine lv_if_eq (tgt := 1836) hx hb dL_law_1831 (by decide) (fun hc => ?_) (fun hc => ?_)
                                                                · have hP := mIf_t hP hc
                                                                  exact hb1836 (u + 1 + 20) (w + 6 + 183) v1 v2 v3 v4 v5 _ _ _ _ hM hS (lv_sub hl [2, 3, 4, 5, 6, 7] rfl) hP
                                                                · have hP := mIf_f hP hc
                                                                  refine lv_iconst (v := 0) hx hb dL_law_1834 (by decide) ?_
                                                                  exact hP.2.elim
                                                            · have hP := mIf_f hP hc
                                                              refine lv_iconst (v := 0) hx hb dL_law_1817 (by decide) ?_
                                                              exact hP.2.elim
                                                          · have hP := mIf_f hP hv
                                                            by_cases hv : ((xs v5.toNatClampNeg) &&& 31) = 25
                                                            · have hP := mIf_t hP hv
                                                              refine lv_tableIn (off := 1794) (tgt := 1839) hx hb dL_law_45 (by rw [hv]; decide) (by rw [hv]; decide) (by rw [hv]; decide) (by decide) ?_
                                                              refine lv_aload_n hx hb dL_law_1839 rfl (lv_at hl 1 rfl) ?_
                                                              refine lv_aload_n hx hb dL_law_1840 rfl (lv_at hl 0 rfl) ?_
                                                              refine lv_iload hx hb dL_law_1841 (lv_at hl 5 rfl) ?_
                                                              refine lv_iconst (v := 1) hx hb dL_law_1843 (by decide) ?_
                                                              refine lv_iadd hx hb dL_law_1844 ?_
                                                              obtain ⟨h9, hP⟩ := hP
                                                              refine va_sld hx hb hX hbl hbA hS h9 dL_law_1845 ?_
                                                              refine lv_aload_n hx hb dL_law_1846 rfl (lv_at hl 3 rfl) ?_
                                                              obtain ⟨hcs, hP⟩ := hP
                                                              refine r_callW (rest := []) X hM hS (ct_L_best hst v1 (xs (v5 + 1).toNatClampNeg) v3) hP mW_L_best rfl rfl hl.1 (Nat.le_of_ble_eq_true rfl) ⟨⟨by decide, by decide⟩, hcs⟩ dL_law_1847 (fun r85 M H locs hM hS hP => ?_)
                                                              refine lv_istore (lv' := [(6, .int r85), (0, .ref b), (1, .ref v1), (2, .ref v2), (3, .ref v3), (4, .ref v4), (5, .int v5)]) hx hb dL_law_1850 hl (by decide) rfl (fun ls hl => ?_)
                                                              refine lv_aload_n hx hb dL_law_1852 rfl (lv_at hl 3 rfl) ?_
                                                              refine lv_aload_n hx hb dL_law_1853 rfl (lv_at hl 1 rfl) ?_
                                                              refine lv_iload hx hb dL_law_1854 (lv_at hl 6 rfl) ?_
                                                              refine lv_iconst (v := 1) hx hb dL_law_1856 (by decide) ?_
                                                              refine lv_iadd hx hb dL_law_1857 ?_
                                                              obtain ⟨h9, hP⟩ := hP
                                                              refine va_sld hx hb hX hbl hbA hS h9 dL_law_1858 ?_
                                                              obtain ⟨hcs, hP⟩ := hP
                                                              refine r_callVi (rest := []) (T := TX9) (N := 14) X hM hS (ct_X9_best hst v2 (xs (v5 + 1).toNatClampNeg)) hP mV_L_189 rfl rfl rfl hl.1 (Nat.le_of_ble_eq_true rfl) ⟨⟨by decide, by decide⟩, hcs⟩ dL_law_1859 (fun r86 M H locs hM hS hP => ?_)
                                                              refine lv_istore (lv' := [(7, .int r86), (6, .int r85), (0, .ref b), (1, .ref v1), (2, .ref v2), (3, .ref v3), (4, .ref v4), (5, .int v5)]) hx hb dL_law_1862 hl (by decide) rfl (fun ls hl => ?_)
                                                              refine lv_aload_n hx hb dL_law_1864 rfl (lv_at hl 4 rfl) ?_
                                                              obtain ⟨hcs, hP⟩ := hP
                                                              refine r_callVi (rest := []) (T := TX9) (N := 14) X hM hS (ct_X9_thrown hst v2) hP mV_L_101 rfl rfl rfl hl.1 (Nat.le_of_ble_eq_true rfl) ⟨⟨by decide, by decide⟩, hcs⟩ dL_law_1865 (fun r87 M H locs hM hS hP => ?_)
                                                              refine lv_iload hx hb dL_law_1868 (lv_at hl 1 rfl) ?_
                                                              refine lv_icmp_eq (tgt := 1875) hx hb dL_law_1870 (by decide) (fun hc => ?_) (fun hc => ?_)
                                                              · have hP := mIf_t hP hc
                                                                refine lv_iload hx hb dL_law_1875 (lv_at hl 1 rfl) ?_
                                                                refine lv_if_ne (tgt := 1892) hx hb dL_law_1877 (by decide) (fun hc => ?_) (fun hc => ?_)
                                                                · have hP := mIf_f hP hc
                                                                  exact hb1892 (u + 1) (w + 6) v1 v2 v3 v4 v5 _ _ _ _ hM hS (lv_sub hl [2, 3, 4, 5, 6, 7] rfl) hP
                                                                · have hP := mIf_t hP hc
                                                                  refine lv_aload_n hx hb dL_law_1880 rfl (lv_at hl 5 rfl) ?_
                                                                  refine lv_iconst (v := 0) hx hb dL_law_1881 (by decide) ?_
                                                                  refine r_ldl X hM hP dL_law_1882 (fun x88 hP => ?_)
                                                                  refine lv_iload hx hb dL_law_1883 (lv_at hl 0 rfl) ?_
                                                                  refine lv_i2l hx hb dL_law_1885 rfl ?_
                                                                  refine W.lcmp hx hb dL_law_1886 ?_
                                                                  refine lv_if_eq (tgt := 1892) hx hb dL_law_1887 (by decide) (fun hc => ?_) (fun hc => ?_)
                                                                  · have hP := mIf_t hP hc
                                                                    exact hb1892 (u + 1) (w + 6) v1 v2 v3 v4 v5 _ _ _ _ hM hS (lv_sub hl [2, 3, 4, 5, 6, 7] rfl) hP
                                                                  · have hP := mIf_f hP hc
                                                                    refine lv_iconst (v := 0) hx hb dL_law_1890 (by decide) ?_
                                                                    exact hP.2.elim
                                                              · have hP := mIf_f hP hc
                                                                refine lv_iconst (v := 0) hx hb dL_law_1873 (by decide) ?_
                                                                exact hP.2.elim
                                                            · have hP := mIf_f hP hv
                                                              by_cases hv : ((xs v5.toNatClampNeg) &&& 31) = 26
                                                              · have hP := mIf_t hP hv
                                                                refine lv_tableIn (off := 1850) (tgt := 1895) hx hb dL_law_45 (by rw [hv]; decide) (by rw [hv]; decide) (by rw [hv]; decide) (by decide) ?_
                                                                refine lv_aload_n hx hb dL_law_1895 rfl (lv_at hl 1 rfl) ?_
                                                                obtain ⟨hcs, hP⟩ := hP
                                                                refine rx_callVl (rest := []) (T := TX5) (N := 18) X hM hS (ct_X5_digest hst v1) hP mV_L_190 rfl rfl rfl hl.1 (Nat.le_of_ble_eq_true rfl) ⟨⟨by decide, by decide⟩, hcs⟩ dL_law_1896 (x_never (fun _ _ h => h)) (fun r89 M H locs hM hS hP => ?_)
                                                                refine lv_aload_n hx hb dL_law_1899 rfl (lv_at hl 2 rfl) ?_
                                                                obtain ⟨hcs, hP⟩ := hP
                                                                refine r_callVl (rest := [.long r89]) (T := TX9) (N := 14) X hM hS (ct_X9_digest hst v2) hP mV_L_194 rfl rfl rfl hl.1 (Nat.le_of_ble_eq_true rfl) ⟨⟨by decide, by decide⟩, hcs⟩ dL_law_1900 (fun r90 M H locs hM hS hP => ?_)
                                                                refine W.lcmp hx hb dL_law_1903 ?_
                                                                refine lv_if_eq (tgt := 1909) hx hb dL_law_1904 (by decide) (fun hc => ?_) (fun hc => ?_)
                                                                · have hP := mIf_t hP hc
                                                                  exact hb1909 (u + 585) (w + 5226) v1 v2 v3 v4 v5 _ _ _ _ hM hS (lv_sub hl [0, 1, 2, 3, 4, 5] rfl) hP
                                                                · have hP := mIf_f hP hc
                                                                  refine lv_iconst (v := 0) hx hb dL_law_1907 (by decide) ?_
                                                                  exact hP.2.elim
                                                              · have hP := mIf_f hP hv
                                                                exact hP.elim
  unfold f_L_law at hP
  obtain ⟨hcs, hP⟩ := hP
  refine r_new X hM hS hP nl_L_8 ft_X5 df_X5 hcs dL_law_0 (fun x1 M H hM hS hP => ?_)
  refine lv_dup hx hb dL_law_3 rfl ?_
  obtain ⟨hcs, hP⟩ := hP
  refine r_callIv (rest := [.ref x1]) X hM hS (ct_X5_init hst x1) hP mI_L_91 rfl rfl hl.1 (Nat.le_of_ble_eq_true rfl) ⟨⟨by decide, by decide⟩, hcs⟩ dL_law_4 (fun M H locs hM hS hP => ?_)
  refine lv_astore_n (lv' := [(1, .ref x1), (0, .ref b)]) hx hb dL_law_7 rfl hl (by decide) rfl (fun ls hl => ?_)
  obtain ⟨hcs, hP⟩ := hP
  refine r_new X hM hS hP nl_L_92 ft_X9 df_X9 hcs dL_law_8 (fun x3 M H hM hS hP => ?_)
  refine lv_dup hx hb dL_law_11 rfl ?_
  obtain ⟨hcs, hP⟩ := hP
  refine r_callIv (rest := [.ref x3]) X hM hS (ct_X9_init hst x3) hP mI_L_94 rfl rfl hl.1 (Nat.le_of_ble_eq_true rfl) ⟨⟨by decide, by decide⟩, hcs⟩ dL_law_12 (fun M H locs hM hS hP => ?_)
  refine lv_astore_n (lv' := [(2, .ref x3), (1, .ref x1), (0, .ref b)]) hx hb dL_law_15 rfl hl (by decide) rfl (fun ls hl => ?_)
  refine lv_iconst (v := 1) hx hb dL_law_16 (by decide) ?_
  obtain ⟨hcs, hP⟩ := hP
  refine r_newa (t := 1) (atype := .long) (fun _ => rfl) (fun _ _ h => h) X hM hS ac_long hP (fun _ => rfl) (by decide) (by decide) (by decide) hcs dL_law_17 (fun x5 M H hM hS hP => ?_)
  refine lv_astore_n (lv' := [(3, .ref x5), (2, .ref x3), (1, .ref x1), (0, .ref b)]) hx hb dL_law_19 rfl hl (by decide) rfl (fun ls hl => ?_)
  refine lv_iconst (v := 1) hx hb dL_law_20 (by decide) ?_
  obtain ⟨hcs, hP⟩ := hP
  refine r_newa (t := 2) (atype := .double) (fun _ => rfl) (fun _ _ h => h) X hM hS ac_double hP (fun _ => rfl) (by decide) (by decide) (by decide) hcs dL_law_21 (fun x6 M H hM hS hP => ?_)
  refine lv_astore (lv' := [(4, .ref x6), (3, .ref x5), (2, .ref x3), (1, .ref x1), (0, .ref b)]) hx hb dL_law_23 hl (by decide) rfl (fun ls hl => ?_)
  refine lv_iconst (v := 0) hx hb dL_law_25 (by decide) ?_
  refine lv_istore (lv' := [(5, .int 0), (4, .ref x6), (3, .ref x5), (2, .ref x3), (1, .ref x1), (0, .ref b)]) hx hb dL_law_26 hl (by decide) rfl (fun ls hl => ?_)
  exact hb28 mFuel (0 + 1 + 31 + 1 + 4 + 1 + 1) (0 + 18 + 265 + 14 + 26 + 1 + 1) x1 x3 x5 x6 0 _ _ _ _ hM hS (lv_sub hl [5, 4, 3, 2, 1, 0] rfl) hP
