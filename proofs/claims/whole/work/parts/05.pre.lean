section ZPre
variable {S : ST} {X : XT} {own : String} {cc : ByteArray} {nL d pc : Nat} {ret : Option FieldType} {Q : Option Value → Mem → Prop} {lv : List (Nat × Value)} {st : List Value} {M : Mem}
theorem z_topi {x : Int32} (k : ∀ y : Int32, y = x → Z S X d nL Q pc lv (.int y :: st) M) : Z S X d nL Q pc lv (.int x :: st) M := k x rfl
theorem z_topl {x : Int64} (k : ∀ y : Int64, y = x → Z S X d nL Q pc lv (.long y :: st) M) : Z S X d nL Q pc lv (.long x :: st) M := k x rfl
theorem z_iastM (hX : Cx S X own cc nL ret) {i x : Int32} (k : Nat) {n : Nat} {rs : List (Option Nat)} (hs : S.1[k]? = some (1, n, rs)) (hin : vp_in i n) (hd : decode cc pc = .ok (.iastore, 1)) (kk : ∀ M1 : Mem, M1 = z_st M k i.toNatClampNeg x → Z S X d nL Q (pc + 1) lv st M1) : Z S X d nL Q pc lv (.int x :: .int i :: .ref (X.1.2.1 k) :: st) M := z_iast hX k hs hin hd (kk _ rfl)
theorem z_lastM (hX : Cx S X own cc nL ret) {i : Int32} {x : Int64} (k : Nat) {n : Nat} {rs : List (Option Nat)} (hs : S.1[k]? = some (2, n, rs)) (hin : vp_in i n) (hd : decode cc pc = .ok (.lastore, 1)) (kk : ∀ M1 : Mem, M1 = z_sl M k i.toNatClampNeg x → Z S X d nL Q (pc + 1) lv st M1) : Z S X d nL Q pc lv (.long x :: .int i :: .ref (X.1.2.1 k) :: st) M := z_last hX k hs hin hd (kk _ rfl)
end ZPre
