def xmix (M1 M2 : XM) : XM := (fun j i k => if j < 14 then M1.1 j i k else M2.1 j i k, fun _ => 0)
