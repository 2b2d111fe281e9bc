/-! readFrom: at most 65 reads on either side, in step -/
def px_RF (post : Int32 → St2 → Prop) (x1 : Int32) (n : Nat) (r x : Int32) (u : St2) : Prop := match u with
  | (tT, wS, rL, sg, rC, gR, hd, lW, lv, oN, ur, cR, K, V, N, nx, ws, fo, pr, rs, fs, rc, mh) => wX_readFrom_7 post x1 n r x tT wS rL sg rC gR hd lW lv oN ur cR K V N nx ws fo pr rs fs rc mh
