-- the blocks of every method
/-! 0: TruceWall$Acts.ofStone(III)I -/
def B0_0 (orc : Orc) : K := o_iload 0 (o_iconst 6 (o_i2 (fun x y => x <<< (y &&& 31)) (o_iload 1 (o_iconst 2 (o_i2 (fun x y => x <<< (y &&& 31)) (o_i2 (fun x y => x ||| y) (o_iload 2 (o_iconst 1 (o_i2 (fun x y => x - y) (o_i2 (fun x y => x ||| y) (o_iret)))))))))))
def P0 (orc : Orc) (b : Nat) : K := match b with
  | 0 => B0_0 orc
  | _ => fun _ _ _ => none
def Q0 (b : Nat) : Nat := match b with
  | 0 => 0
  | _ => 0
/-! 1: TruceWall$Acts.ofGate(I)I -/
def B1_0 (orc : Orc) : K := o_iconst 384 (o_iload 0 (o_iconst 2 (o_i2 (fun x y => x <<< (y &&& 31)) (o_i2 (fun x y => x ||| y) (o_iret)))))
def P1 (orc : Orc) (b : Nat) : K := match b with
  | 0 => B1_0 orc
  | _ => fun _ _ _ => none
def Q1 (b : Nat) : Nat := match b with
  | 0 => 0
  | _ => 0
/-! 2: TruceWall$Acts.isGate(I)Z -/
def B2_0 (orc : Orc) : K := o_iload 0 (o_sI orc 3 1 (o_iconst 6 (o_ieq (o_iconst 1 (o_zret)) (o_iconst 0 (o_zret)))))
def P2 (orc : Orc) (b : Nat) : K := match b with
  | 0 => B2_0 orc
  | _ => fun _ _ _ => none
def Q2 (b : Nat) : Nat := match b with
  | 0 => 0
  | _ => 0
/-! 3: TruceWall$Acts.stoneOf(I)I -/
def B3_0 (orc : Orc) : K := o_iload 0 (o_iconst 6 (o_i2 (fun x y => x >>> (y &&& 31)) (o_iret)))
def P3 (orc : Orc) (b : Nat) : K := match b with
  | 0 => B3_0 orc
  | _ => fun _ _ _ => none
def Q3 (b : Nat) : Nat := match b with
  | 0 => 0
  | _ => 0
/-! 4: TruceWall$Acts.columnOf(I)I -/
def B4_0 (orc : Orc) : K := o_iload 0 (o_iconst 2 (o_i2 (fun x y => x >>> (y &&& 31)) (o_iconst 15 (o_i2 (fun x y => x &&& y) (o_iret)))))
def P4 (orc : Orc) (b : Nat) : K := match b with
  | 0 => B4_0 orc
  | _ => fun _ _ _ => none
def Q4 (b : Nat) : Nat := match b with
  | 0 => 0
  | _ => 0
/-! 5: TruceWall$Acts.wideOf(I)I -/
def B5_0 (orc : Orc) : K := o_iload 0 (o_iconst 3 (o_i2 (fun x y => x &&& y) (o_iconst 1 (o_i2 (fun x y => x + y) (o_iret)))))
def P5 (orc : Orc) (b : Nat) : K := match b with
  | 0 => B5_0 orc
  | _ => fun _ _ _ => none
def Q5 (b : Nat) : Nat := match b with
  | 0 => 0
  | _ => 0
/-! 6: TruceWall$Mark.<init>()V -/
def B6_0 (orc : Orc) : K := o_aload 0 (o_obj (o_aload 0 (o_null (o_putR 0 0 (o_aload 0 (o_iconst 60 (o_newa 0 (o_putR 0 1 (o_aload 0 (o_iconst 0 (o_putI 0 2 (o_vret))))))))))))
def P6 (orc : Orc) (b : Nat) : K := match b with
  | 0 => B6_0 orc
  | _ => fun _ _ _ => none
def Q6 (b : Nat) : Nat := match b with
  | 0 => 0
  | _ => 0
/-! 7: TruceWall$Mark.lay(LTruceWall$Truce;LTruceWall$Site;)V -/
def B7_0 (orc : Orc) : K := o_aload 0 (o_aload 1 (o_putR 0 0 (o_aload 2 (o_getR 4 0 (o_iconst 0 (o_aload 0 (o_getR 0 1 (o_iconst 0 (o_iconst 60 (o_copy (o_aload 0 (o_aload 2 (o_getI 4 1 (o_putI 0 2 (o_vret)))))))))))))))
def P7 (orc : Orc) (b : Nat) : K := match b with
  | 0 => B7_0 orc
  | _ => fun _ _ _ => none
def Q7 (b : Nat) : Nat := match b with
  | 0 => 0
  | _ => 0
/-! 8: TruceWall$Play.<init>()V -/
def B8_0 (orc : Orc) : K := o_aload 0 (o_obj (o_aload 0 (o_iconst 6250 (o_newa 0 (o_putR 1 0 (o_aload 0 (o_null (o_putR 1 1 (o_aload 0 (o_iconst (-1) (o_putI 1 2 (o_aload 0 (o_iconst (-1) (o_putI 1 3 (o_vret)))))))))))))))
def P8 (orc : Orc) (b : Nat) : K := match b with
  | 0 => B8_0 orc
  | _ => fun _ _ _ => none
def Q8 (b : Nat) : Nat := match b with
  | 0 => 0
  | _ => 0
/-! 9: TruceWall$Play.payerIn(I)I -/
def B9_0 (orc : Orc) : K := o_iload 0 (o_iconst 1 (o_i2 (fun x y => x &&& y) (o_iret)))
def P9 (orc : Orc) (b : Nat) : K := match b with
  | 0 => B9_0 orc
  | _ => fun _ _ _ => none
def Q9 (b : Nat) : Nat := match b with
  | 0 => 0
  | _ => 0
/-! 10: TruceWall$Play.daysIn(I)I -/
def B10_0 (orc : Orc) : K := o_iload 0 (o_iconst 1 (o_i2 (fun x y => x >>> (y &&& 31)) (o_iret)))
def P10 (orc : Orc) (b : Nat) : K := match b with
  | 0 => B10_0 orc
  | _ => fun _ _ _ => none
def Q10 (b : Nat) : Nat := match b with
  | 0 => 0
  | _ => 0
/-! 11: TruceWall$Play.later(I)I -/
def B11_0 (orc : Orc) : K := o_iload 0 (o_iconst 2 (o_i2 (fun x y => x + y) (o_iret)))
def P11 (orc : Orc) (b : Nat) : K := match b with
  | 0 => B11_0 orc
  | _ => fun _ _ _ => none
def Q11 (b : Nat) : Nat := match b with
  | 0 => 0
  | _ => 0
/-! 12: TruceWall$Play.score(II)I -/
def B12_0 (orc : Orc) : K := o_iload 0 (o_sI orc 10 1 (o_istore 2 (o_iload 0 (o_sI orc 9 1 (o_iload 1 (o_ieq (o_iload 2 (o_iret)) (o_iconst 1000 (o_iload 2 (o_i2 (fun x y => x - y) (o_iret))))))))))
def P12 (orc : Orc) (b : Nat) : K := match b with
  | 0 => B12_0 orc
  | _ => fun _ _ _ => none
def Q12 (b : Nat) : Nat := match b with
  | 0 => 0
  | _ => 0
/-! 13: TruceWall$Play.prepare(LTruceWall$Truce;II)V -/
def B13_0 (orc : Orc) : K := o_aload 0 (o_getR 1 1 (o_aload 1 (o_aeq (o_aload 0 (o_getI 1 2 (o_iload 2 (o_ieq (o_aload 0 (o_getI 1 3 (o_iload 3 (o_ieq (o_vret) (o_jmp 1))))) (o_jmp 1))))) (o_jmp 1))))
def B13_1 (orc : Orc) : K := o_aload 0 (o_aload 1 (o_putR 1 1 (o_aload 0 (o_iload 2 (o_putI 1 2 (o_aload 0 (o_iload 3 (o_putI 1 3 (o_iconst 0 (o_istore 4 (o_jmp 2)))))))))))
def B13_2 (orc : Orc) : K := o_iload 4 (o_aload 0 (o_getR 1 0 (o_alen (o_ilt (o_aload 0 (o_getR 1 0 (o_iload 4 (o_iconst 0 (o_iast 0 (fun x => x) (o_iinc 4 1 (o_jmp 2))))))) (o_vret)))))
def P13 (orc : Orc) (b : Nat) : K := match b with
  | 0 => B13_0 orc
  | 1 => B13_1 orc
  | 2 => B13_2 orc
  | _ => fun _ _ _ => none
def Q13 (b : Nat) : Nat := match b with
  | 0 => 0
  | 1 => 25
  | 2 => 43
  | _ => 0
/-! 14: TruceWall$Play.outcome(JII)I -/
def B14_0 (orc : Orc) : K := o_aload 0 (o_getR 1 1 (o_ifnull (o_iload 3 (o_iret)) (o_iload 4 (o_iconst 20 (o_igt (o_iload 3 (o_iret)) (o_iconst 2 (o_aload 0 (o_getR 1 1 (o_lload 1 (o_vI orc 76 2 5 (o_i2 (fun x y => x * y) (o_iload 3 (o_i2 (fun x y => x + y) (o_istore 5 (o_iload 5 (o_aload 0 (o_getR 1 0 (o_alen (o_ilt (o_aload 0 (o_getR 1 0 (o_iload 5 (o_iald 0 (o_if0 (o_aload 0 (o_getR 1 0 (o_iload 5 (o_iconst 1 (o_iload 3 (o_aload 0 (o_getI 1 2 (o_ieq (o_aload 0 (o_lload 1 (o_iload 3 (o_iload 4 (o_vI orc 16 4 1 (o_jmp 1)))))) (o_aload 0 (o_lload 1 (o_iload 3 (o_iload 4 (o_vI orc 15 4 1 (o_jmp 1)))))))))))))) (o_jmp 2)))))) (o_iload 3 (o_iret)))))))))))))))))))))
def B14_1 (orc : Orc) : K := o_i2 (fun x y => x + y) (o_iast 0 (fun x => x) (o_jmp 2))
def B14_2 (orc : Orc) : K := o_aload 0 (o_getR 1 0 (o_iload 5 (o_iald 0 (o_iconst 1 (o_i2 (fun x y => x - y) (o_iret))))))
def P14 (orc : Orc) (b : Nat) : K := match b with
  | 0 => B14_0 orc
  | 1 => B14_1 orc
  | 2 => B14_2 orc
  | _ => fun _ _ _ => none
def Q14 (b : Nat) : Nat := match b with
  | 0 => 0
  | 1 => 86
  | 2 => 88
  | _ => 0
/-! 15: TruceWall$Play.outcomeByChoice(JII)I -/
def B15_0 (orc : Orc) : K := o_iconst (-1) (o_istore 5 (o_iconst 0 (o_istore 6 (o_jmp 1))))
def B15_1 (orc : Orc) : K := o_iload 6 (o_aload 0 (o_getR 1 1 (o_getR 5 8 (o_alen (o_ilt (o_aload 0 (o_getR 1 1 (o_getR 5 8 (o_iload 6 (o_iald 0 (o_istore 7 (o_aload 0 (o_getR 1 1 (o_lload 1 (o_iload 3 (o_iload 7 (o_vI orc 71 4 5 (o_if0 (o_jmp 3) (o_aload 0 (o_aload 0 (o_getR 1 1 (o_lload 1 (o_iload 3 (o_iload 7 (o_vL orc 73 4 5 (o_iconst 1 (o_iload 3 (o_i2 (fun x y => x - y) (o_iload 4 (o_iconst 1 (o_i2 (fun x y => x + y) (o_vI orc 14 4 1 (o_sI orc 11 1 (o_istore 8 (o_iload 5 (o_iconst (-1) (o_ieq (o_jmp 2) (o_iload 8 (o_iload 3 (o_sI orc 12 2 (o_iload 5 (o_iload 3 (o_sI orc 12 2 (o_igt (o_jmp 2) (o_jmp 3)))))))))))))))))))))))))))))))))))))))) (o_iload 5 (o_iconst (-1) (o_ieq (o_aload 0 (o_getR 1 1 (o_lload 1 (o_iload 3 (o_vI orc 75 3 5 (o_iret)))))) (o_iload 5 (o_iret))))))))))
def B15_2 (orc : Orc) : K := o_iload 8 (o_istore 5 (o_jmp 3))
def B15_3 (orc : Orc) : K := o_iinc 6 1 (o_jmp 1)
def P15 (orc : Orc) (b : Nat) : K := match b with
  | 0 => B15_0 orc
  | 1 => B15_1 orc
  | 2 => B15_2 orc
  | 3 => B15_3 orc
  | _ => fun _ _ _ => none
def Q15 (b : Nat) : Nat := match b with
  | 0 => 0
  | 1 => 6
  | 2 => 93
  | 3 => 97
  | _ => 0
/-! 16: TruceWall$Play.outcomeByRule(JII)I -/
def B16_0 (orc : Orc) : K := o_aload 0 (o_lload 1 (o_iload 3 (o_vI orc 17 3 1 (o_istore 5 (o_iload 5 (o_iconst (-1) (o_ieq (o_aload 0 (o_getR 1 1 (o_lload 1 (o_iload 3 (o_vI orc 75 3 5 (o_iret)))))) (o_aload 0 (o_aload 0 (o_getR 1 1 (o_lload 1 (o_iload 3 (o_iload 5 (o_vL orc 73 4 5 (o_iconst 1 (o_iload 3 (o_i2 (fun x y => x - y) (o_iload 4 (o_iconst 1 (o_i2 (fun x y => x + y) (o_vI orc 14 4 1 (o_sI orc 11 1 (o_iret)))))))))))))))))))))))
def P16 (orc : Orc) (b : Nat) : K := match b with
  | 0 => B16_0 orc
  | _ => fun _ _ _ => none
def Q16 (b : Nat) : Nat := match b with
  | 0 => 0
  | _ => 0
/-! 17: TruceWall$Play.actByRule(JI)I -/
def B17_0 (orc : Orc) : K := o_iconst (-1) (o_istore 4 (o_iconst 0 (o_istore 5 (o_iconst 0 (o_istore 6 (o_jmp 1))))))
def B17_1 (orc : Orc) : K := o_iload 6 (o_aload 0 (o_getR 1 1 (o_getR 5 8 (o_alen (o_ilt (o_aload 0 (o_getR 1 1 (o_getR 5 8 (o_iload 6 (o_iald 0 (o_istore 7 (o_aload 0 (o_getR 1 1 (o_lload 1 (o_iload 3 (o_iload 7 (o_vI orc 71 4 5 (o_if0 (o_jmp 3) (o_lload 1 (o_iload 7 (o_sI orc 4 1 (o_sI orc 57 2 (o_istore 8 (o_iload 4 (o_iconst (-1) (o_ieq (o_jmp 2) (o_aload 0 (o_getI 1 3 (o_iconst 1 (o_ieq (o_jmp 2) (o_aload 0 (o_getI 1 3 (o_iconst 2 (o_ieq (o_iload 8 (o_iload 5 (o_ilt (o_jmp 2) (o_jmp 3)))) (o_jmp 3)))))))))))))))))))))))))))))) (o_iload 4 (o_iret)))))))
def B17_2 (orc : Orc) : K := o_iload 7 (o_istore 4 (o_iload 8 (o_istore 5 (o_jmp 3))))
def B17_3 (orc : Orc) : K := o_iinc 6 1 (o_jmp 1)
def P17 (orc : Orc) (b : Nat) : K := match b with
  | 0 => B17_0 orc
  | 1 => B17_1 orc
  | 2 => B17_2 orc
  | 3 => B17_3 orc
  | _ => fun _ _ _ => none
def Q17 (b : Nat) : Nat := match b with
  | 0 => 0
  | 1 => 9
  | 2 => 88
  | 3 => 96
  | _ => 0
/-! 18: TruceWall$Reader.<init>()V -/
def B18_0 (orc : Orc) : K := o_aload 0 (o_obj (o_aload 0 (o_iconst 2 (o_putI 2 0 (o_aload 0 (o_iconst 1 (o_putI 2 1 (o_aload 0 (o_iconst 0 (o_putI 2 2 (o_aload 0 (o_iconst 0 (o_putI 2 3 (o_aload 0 (o_iconst 6 (o_newa 0 (o_putR 2 4 (o_aload 0 (o_iconst 6 (o_newa 0 (o_putR 2 5 (o_aload 0 (o_iconst 6 (o_newa 1 (o_putR 2 6 (o_aload 0 (o_iconst 1000 (o_newa 0 (o_putR 2 7 (o_aload 0 (o_iconst 0 (o_putI 2 8 (o_aload 0 (o_iconst 0 (o_putZ 2 9 (o_aload 0 (o_iconst 0 (o_putZ 2 10 (o_aload 0 (o_iconst 0 (o_newa 2 (o_putR 2 11 (o_aload 0 (o_iconst 0 (o_putI 2 12 (o_aload 0 (o_iconst 0 (o_putI 2 13 (o_aload 0 (o_iconst 0 (o_putI 2 14 (o_aload 0 (o_iconst 0 (o_putI 2 15 (o_aload 0 (o_iconst 259 (o_putI 2 16 (o_aload 0 (o_iconst 0 (o_putI 2 17 (o_aload 0 (o_lconst 0 (o_putL 2 18 (o_vret))))))))))))))))))))))))))))))))))))))))))))))))))))))))))))))))
def P18 (orc : Orc) (b : Nat) : K := match b with
  | 0 => B18_0 orc
  | _ => fun _ _ _ => none
def Q18 (b : Nat) : Nat := match b with
  | 0 => 0
  | _ => 0
/-! 19: TruceWall$Reader.written()LTruceWall$Truce; -/
def B19_0 (orc : Orc) : K := o_new 5 (o_dup (o_aload 0 (o_nV orc 56 2 (o_aret))))
def P19 (orc : Orc) (b : Nat) : K := match b with
  | 0 => B19_0 orc
  | _ => fun _ _ _ => none
def Q19 (b : Nat) : Nat := match b with
  | 0 => 0
  | _ => 0
/-! 20: TruceWall$Reader.fineCode()[I -/
def B20_0 (orc : Orc) : K := o_aload 0 (o_getI 2 10 (o_if0 (o_iconst 1 (o_jmp 1)) (o_aload 0 (o_getI 2 8 (o_jmp 1)))))
def B20_1 (orc : Orc) : K := o_newa 0 (o_astore 1 (o_aload 0 (o_getI 2 10 (o_if0 (o_aload 1 (o_iconst 0 (o_iconst (-138) (o_iast 0 (fun x => x) (o_aload 1 (o_aret)))))) (o_aload 0 (o_getR 2 7 (o_iconst 0 (o_aload 1 (o_iconst 0 (o_aload 0 (o_getI 2 8 (o_copy (o_aload 1 (o_aret))))))))))))))
def P20 (orc : Orc) (b : Nat) : K := match b with
  | 0 => B20_0 orc
  | 1 => B20_1 orc
  | _ => fun _ _ _ => none
def Q20 (b : Nat) : Nat := match b with
  | 0 => 0
  | 1 => 15
  | _ => 0
/-! 21: TruceWall$Reader.readTruce([CI)I -/
def B21_0 (orc : Orc) : K := o_aload 0 (o_aload 1 (o_putR 2 11 (o_aload 0 (o_iload 2 (o_putI 2 12 (o_aload 0 (o_iconst 0 (o_putI 2 13 (o_aload 0 (o_iconst 0 (o_putI 2 15 (o_aload 0 (o_iconst 0 (o_putI 2 2 (o_aload 0 (o_iconst 0 (o_putI 2 3 (o_aload 0 (o_iconst 0 (o_putI 2 8 (o_aload 0 (o_iconst 0 (o_putZ 2 9 (o_aload 0 (o_iconst 0 (o_putZ 2 10 (o_aload 0 (o_vV orc 37 1 2 (o_aload 0 (o_vV orc 22 1 2 (o_iconst 0 (o_istore 3 (o_jmp 1)))))))))))))))))))))))))))))))))
def B21_1 (orc : Orc) : K := o_iload 3 (o_iconst 1000 (o_ilt (o_aload 0 (o_getI 2 13 (o_if0 (o_aload 0 (o_getI 2 16 (o_iconst 259 (o_ieq (o_jmp 3) (o_aload 0 (o_getI 2 16 (o_sw [(129, o_aload 0 (o_vV orc 23 1 2 (o_jmp 2))), (130, o_aload 0 (o_vV orc 24 1 2 (o_jmp 2))), (131, o_aload 0 (o_vV orc 25 1 2 (o_jmp 2)))] (o_aload 0 (o_iconst 1 (o_vV orc 32 2 2 (o_jmp 2))))))))))) (o_jmp 3)))) (o_jmp 3)))
def B21_2 (orc : Orc) : K := o_iinc 3 1 (o_jmp 1)
def B21_3 (orc : Orc) : K := o_aload 0 (o_getI 2 13 (o_iret))
def P21 (orc : Orc) (b : Nat) : K := match b with
  | 0 => B21_0 orc
  | 1 => B21_1 orc
  | 2 => B21_2 orc
  | 3 => B21_3 orc
  | _ => fun _ _ _ => none
def Q21 (b : Nat) : Nat := match b with
  | 0 => 0
  | 1 => 55
  | 2 => 134
  | 3 => 140
  | _ => 0
/-! 22: TruceWall$Reader.wallLine()V -/
def B22_0 (orc : Orc) : K := o_aload 0 (o_iconst 128 (o_vV orc 33 2 2 (o_aload 0 (o_aload 0 (o_iconst 2 (o_iconst 10 (o_vI orc 34 3 2 (o_putI 2 0 (o_aload 0 (o_aload 0 (o_iconst 1 (o_iconst 6 (o_vI orc 34 3 2 (o_putI 2 1 (o_aload 0 (o_iconst 59 (o_vV orc 33 2 2 (o_vret))))))))))))))))))
def P22 (orc : Orc) (b : Nat) : K := match b with
  | 0 => B22_0 orc
  | _ => fun _ _ _ => none
def Q22 (b : Nat) : Nat := match b with
  | 0 => 0
  | _ => 0
/-! 23: TruceWall$Reader.stoneLine()V -/
def B23_0 (orc : Orc) : K := o_aload 0 (o_getI 2 3 (o_iconst 6 (o_ilt (o_aload 0 (o_vV orc 37 1 2 (o_aload 0 (o_getR 2 6 (o_aload 0 (o_getI 2 3 (o_aload 0 (o_vL orc 36 1 2 (o_last (o_aload 0 (o_vI orc 35 1 2 (o_istore 1 (o_iload 1 (o_iconst 1 (o_ieq (o_iconst 2 (o_jmp 1)) (o_iconst 1 (o_jmp 1))))))))))))))))) (o_aload 0 (o_iconst 5 (o_vV orc 32 2 2 (o_vret)))))))
def B23_1 (orc : Orc) : K := o_istore 2 (o_iload 1 (o_iconst 2 (o_ieq (o_jmp 2) (o_iload 1 (o_iconst 3 (o_ieq (o_jmp 2) (o_iconst 4 (o_jmp 3))))))))
def B23_2 (orc : Orc) : K := o_iconst 1 (o_jmp 3)
def B23_3 (orc : Orc) : K := o_istore 3 (o_aload 0 (o_getR 2 4 (o_aload 0 (o_getI 2 3 (o_iload 1 (o_iast 0 (fun x => x) (o_aload 0 (o_getR 2 5 (o_aload 0 (o_getI 2 3 (o_aload 0 (o_iload 2 (o_iload 3 (o_vI orc 34 3 2 (o_iast 0 (fun x => x) (o_aload 0 (o_iconst 59 (o_vV orc 33 2 2 (o_aload 0 (o_dup (o_getI 2 3 (o_iconst 1 (o_i2 (fun x y => x + y) (o_putI 2 3 (o_vret)))))))))))))))))))))))))
def P23 (orc : Orc) (b : Nat) : K := match b with
  | 0 => B23_0 orc
  | 1 => B23_1 orc
  | 2 => B23_2 orc
  | 3 => B23_3 orc
  | _ => fun _ _ _ => none
def Q23 (b : Nat) : Nat := match b with
  | 0 => 0
  | 1 => 47
  | 2 => 58
  | 3 => 63
  | _ => 0
/-! 24: TruceWall$Reader.gatesLine()V -/
def B24_0 (orc : Orc) : K := o_aload 0 (o_getI 2 9 (o_if0 (o_aload 0 (o_iconst 1 (o_putZ 2 9 (o_aload 0 (o_vV orc 37 1 2 (o_aload 0 (o_aload 0 (o_iconst 0 (o_iconst 1 (o_vI orc 34 3 2 (o_putI 2 2 (o_aload 0 (o_iconst 59 (o_vV orc 33 2 2 (o_vret))))))))))))))) (o_aload 0 (o_iconst 3 (o_vV orc 32 2 2 (o_vret))))))
def P24 (orc : Orc) (b : Nat) : K := match b with
  | 0 => B24_0 orc
  | _ => fun _ _ _ => none
def Q24 (b : Nat) : Nat := match b with
  | 0 => 0
  | _ => 0
/-! 25: TruceWall$Reader.fineLine()V -/
def B25_0 (orc : Orc) : K := o_aload 0 (o_getI 2 10 (o_if0 (o_aload 0 (o_iconst 1 (o_putZ 2 10 (o_aload 0 (o_vV orc 37 1 2 (o_aload 0 (o_iconst 0 (o_vV orc 26 2 2 (o_aload 0 (o_iconst 59 (o_vV orc 33 2 2 (o_vret)))))))))))) (o_aload 0 (o_iconst 3 (o_vV orc 32 2 2 (o_vret))))))
def P25 (orc : Orc) (b : Nat) : K := match b with
  | 0 => B25_0 orc
  | _ => fun _ _ _ => none
def Q25 (b : Nat) : Nat := match b with
  | 0 => 0
  | _ => 0
/-! 26: TruceWall$Reader.readE(I)V -/
def B26_0 (orc : Orc) : K := o_aload 0 (o_iload 1 (o_vV orc 27 2 2 (o_iconst 0 (o_istore 2 (o_jmp 1)))))
def B26_1 (orc : Orc) : K := o_iload 2 (o_iconst 1000 (o_ilt (o_aload 0 (o_getI 2 13 (o_if0 (o_aload 0 (o_getI 2 16 (o_iconst 143 (o_ieq (o_jmp 2) (o_aload 0 (o_getI 2 16 (o_iconst 144 (o_ieq (o_jmp 2) (o_vret))))))))) (o_vret)))) (o_vret)))
def B26_2 (orc : Orc) : K := o_aload 0 (o_getI 2 16 (o_istore 3 (o_aload 0 (o_vV orc 37 1 2 (o_aload 0 (o_iload 1 (o_vV orc 27 2 2 (o_aload 0 (o_iload 3 (o_i1 (fun x => -x) (o_vV orc 31 2 2 (o_iinc 2 1 (o_jmp 1)))))))))))))
def P26 (orc : Orc) (b : Nat) : K := match b with
  | 0 => B26_0 orc
  | 1 => B26_1 orc
  | 2 => B26_2 orc
  | _ => fun _ _ _ => none
def Q26 (b : Nat) : Nat := match b with
  | 0 => 0
  | 1 => 7
  | 2 => 41
  | _ => 0
/-! 27: TruceWall$Reader.readTest(I)V -/
def B27_0 (orc : Orc) : K := o_aload 0 (o_iload 1 (o_vV orc 28 2 2 (o_aload 0 (o_getI 2 13 (o_if0 (o_aload 0 (o_getI 2 16 (o_iconst 60 (o_ieq (o_jmp 1) (o_aload 0 (o_getI 2 16 (o_iconst 61 (o_ieq (o_jmp 1) (o_vret))))))))) (o_vret))))))
def B27_1 (orc : Orc) : K := o_aload 0 (o_getI 2 16 (o_istore 2 (o_aload 0 (o_vV orc 37 1 2 (o_aload 0 (o_iload 1 (o_vV orc 28 2 2 (o_aload 0 (o_iload 2 (o_i1 (fun x => -x) (o_vV orc 31 2 2 (o_vret))))))))))))
def P27 (orc : Orc) (b : Nat) : K := match b with
  | 0 => B27_0 orc
  | 1 => B27_1 orc
  | _ => fun _ _ _ => none
def Q27 (b : Nat) : Nat := match b with
  | 0 => 0
  | 1 => 30
  | _ => 0
/-! 28: TruceWall$Reader.readSum(I)V -/
def B28_0 (orc : Orc) : K := o_aload 0 (o_iload 1 (o_vV orc 29 2 2 (o_iconst 0 (o_istore 2 (o_jmp 1)))))
def B28_1 (orc : Orc) : K := o_iload 2 (o_iconst 1000 (o_ilt (o_aload 0 (o_getI 2 13 (o_if0 (o_aload 0 (o_getI 2 16 (o_iconst 43 (o_ieq (o_jmp 2) (o_aload 0 (o_getI 2 16 (o_iconst 45 (o_ieq (o_jmp 2) (o_vret))))))))) (o_vret)))) (o_vret)))
def B28_2 (orc : Orc) : K := o_aload 0 (o_getI 2 16 (o_istore 3 (o_aload 0 (o_vV orc 37 1 2 (o_aload 0 (o_iload 1 (o_vV orc 29 2 2 (o_aload 0 (o_iload 3 (o_i1 (fun x => -x) (o_vV orc 31 2 2 (o_iinc 2 1 (o_jmp 1)))))))))))))
def P28 (orc : Orc) (b : Nat) : K := match b with
  | 0 => B28_0 orc
  | 1 => B28_1 orc
  | 2 => B28_2 orc
  | _ => fun _ _ _ => none
def Q28 (b : Nat) : Nat := match b with
  | 0 => 0
  | 1 => 7
  | 2 => 39
  | _ => 0
/-! 29: TruceWall$Reader.readProduct(I)V -/
def B29_0 (orc : Orc) : K := o_aload 0 (o_iload 1 (o_vV orc 30 2 2 (o_iconst 0 (o_istore 2 (o_jmp 1)))))
def B29_1 (orc : Orc) : K := o_iload 2 (o_iconst 1000 (o_ilt (o_aload 0 (o_getI 2 13 (o_if0 (o_aload 0 (o_getI 2 16 (o_iconst 42 (o_ieq (o_aload 0 (o_vV orc 37 1 2 (o_aload 0 (o_iload 1 (o_vV orc 30 2 2 (o_aload 0 (o_iconst (-42) (o_vV orc 31 2 2 (o_iinc 2 1 (o_jmp 1)))))))))) (o_vret))))) (o_vret)))) (o_vret)))
def P29 (orc : Orc) (b : Nat) : K := match b with
  | 0 => B29_0 orc
  | 1 => B29_1 orc
  | _ => fun _ _ _ => none
def Q29 (b : Nat) : Nat := match b with
  | 0 => 0
  | 1 => 7
  | _ => 0
/-! 30: TruceWall$Reader.readPart(I)V -/
def B30_0 (orc : Orc) : K := o_aload 0 (o_getI 2 16 (o_iconst 138 (o_ilt (o_jmp 1) (o_aload 0 (o_getI 2 16 (o_iconst 141 (o_igt (o_jmp 1) (o_iconst 1 (o_jmp 2)))))))))
def B30_1 (orc : Orc) : K := o_iconst 0 (o_jmp 2)
def B30_2 (orc : Orc) : K := o_istore 2 (o_iload 2 (o_if0 (o_aload 0 (o_getI 2 16 (o_iconst 257 (o_ieq (o_jmp 3) (o_aload 0 (o_getI 2 16 (o_iconst 142 (o_ieq (o_jmp 3) (o_aload 0 (o_getI 2 16 (o_iconst 40 (o_ieq (o_jmp 3) (o_aload 0 (o_iconst 1 (o_vV orc 32 2 2 (o_vret)))))))))))))))) (o_jmp 3)))
def B30_3 (orc : Orc) : K := o_iload 1 (o_iconst 5 (o_ilt (o_aload 0 (o_getI 2 16 (o_iconst 257 (o_ieq (o_aload 0 (o_aload 0 (o_getI 2 17 (o_vV orc 31 2 2 (o_aload 0 (o_vV orc 37 1 2 (o_vret))))))) (o_iload 2 (o_if0 (o_aload 0 (o_getI 2 16 (o_iconst 142 (o_ieq (o_aload 0 (o_vV orc 37 1 2 (o_aload 0 (o_iload 1 (o_iconst 1 (o_i2 (fun x y => x + y) (o_vV orc 30 2 2 (o_aload 0 (o_iconst (-142) (o_vV orc 31 2 2 (o_vret))))))))))) (o_aload 0 (o_vV orc 37 1 2 (o_aload 0 (o_iload 1 (o_iconst 1 (o_i2 (fun x y => x + y) (o_vV orc 26 2 2 (o_aload 0 (o_iconst 41 (o_vV orc 33 2 2 (o_vret))))))))))))))) (o_aload 0 (o_aload 0 (o_getI 2 16 (o_i1 (fun x => -x) (o_vV orc 31 2 2 (o_aload 0 (o_vV orc 37 1 2 (o_vret)))))))))))))) (o_aload 0 (o_iconst 5 (o_vV orc 32 2 2 (o_vret))))))
def P30 (orc : Orc) (b : Nat) : K := match b with
  | 0 => B30_0 orc
  | 1 => B30_1 orc
  | 2 => B30_2 orc
  | 3 => B30_3 orc
  | _ => fun _ _ _ => none
def Q30 (b : Nat) : Nat := match b with
  | 0 => 0
  | 1 => 24
  | 2 => 25
  | 3 => 67
  | _ => 0
/-! 31: TruceWall$Reader.emit(I)V -/
def B31_0 (orc : Orc) : K := o_aload 0 (o_getI 2 13 (o_if0 (o_aload 0 (o_getI 2 8 (o_aload 0 (o_getR 2 7 (o_alen (o_ilt (o_aload 0 (o_getR 2 7 (o_aload 0 (o_getI 2 8 (o_iload 1 (o_iast 0 (fun x => x) (o_aload 0 (o_dup (o_getI 2 8 (o_iconst 1 (o_i2 (fun x y => x + y) (o_putI 2 8 (o_vret))))))))))))) (o_vret))))))) (o_vret)))
def P31 (orc : Orc) (b : Nat) : K := match b with
  | 0 => B31_0 orc
  | _ => fun _ _ _ => none
def Q31 (b : Nat) : Nat := match b with
  | 0 => 0
  | _ => 0
/-! 32: TruceWall$Reader.wrong(I)V -/
def B32_0 (orc : Orc) : K := o_aload 0 (o_getI 2 13 (o_if0 (o_aload 0 (o_iload 1 (o_iconst 16 (o_aload 0 (o_getI 2 14 (o_i2 (fun x y => x * y) (o_i2 (fun x y => x + y) (o_putI 2 13 (o_vret))))))))) (o_vret)))
def P32 (orc : Orc) (b : Nat) : K := match b with
  | 0 => B32_0 orc
  | _ => fun _ _ _ => none
def Q32 (b : Nat) : Nat := match b with
  | 0 => 0
  | _ => 0
/-! 33: TruceWall$Reader.expect(I)V -/
def B33_0 (orc : Orc) : K := o_aload 0 (o_getI 2 16 (o_iload 1 (o_ieq (o_aload 0 (o_vV orc 37 1 2 (o_vret))) (o_aload 0 (o_iconst 1 (o_vV orc 32 2 2 (o_vret)))))))
def P33 (orc : Orc) (b : Nat) : K := match b with
  | 0 => B33_0 orc
  | _ => fun _ _ _ => none
def Q33 (b : Nat) : Nat := match b with
  | 0 => 0
  | _ => 0
/-! 34: TruceWall$Reader.expectNumber(II)I -/
def B34_0 (orc : Orc) : K := o_aload 0 (o_getI 2 16 (o_iconst 257 (o_ieq (o_aload 0 (o_getI 2 17 (o_iload 1 (o_ilt (o_jmp 1) (o_aload 0 (o_getI 2 17 (o_iload 2 (o_igt (o_jmp 1) (o_aload 0 (o_getI 2 17 (o_istore 3 (o_aload 0 (o_vV orc 37 1 2 (o_iload 3 (o_iret))))))))))))))) (o_aload 0 (o_iconst 1 (o_vV orc 32 2 2 (o_iload 1 (o_iret))))))))
def B34_1 (orc : Orc) : K := o_aload 0 (o_iconst 4 (o_vV orc 32 2 2 (o_iload 1 (o_iret))))
def P34 (orc : Orc) (b : Nat) : K := match b with
  | 0 => B34_0 orc
  | 1 => B34_1 orc
  | _ => fun _ _ _ => none
def Q34 (b : Nat) : Nat := match b with
  | 0 => 0
  | 1 => 33
  | _ => 0
/-! 35: TruceWall$Reader.expectKind()I -/
def B35_0 (orc : Orc) : K := o_aload 0 (o_getI 2 16 (o_iconst 132 (o_ilt (o_jmp 1) (o_aload 0 (o_getI 2 16 (o_iconst 137 (o_igt (o_jmp 1) (o_aload 0 (o_getI 2 16 (o_iconst 132 (o_i2 (fun x y => x - y) (o_istore 1 (o_aload 0 (o_vV orc 37 1 2 (o_iload 1 (o_iret))))))))))))))))
def B35_1 (orc : Orc) : K := o_aload 0 (o_iconst 1 (o_vV orc 32 2 2 (o_iconst 0 (o_iret))))
def P35 (orc : Orc) (b : Nat) : K := match b with
  | 0 => B35_0 orc
  | 1 => B35_1 orc
  | _ => fun _ _ _ => none
def Q35 (b : Nat) : Nat := match b with
  | 0 => 0
  | 1 => 20
  | _ => 0
/-! 36: TruceWall$Reader.expectName()J -/
def B36_0 (orc : Orc) : K := o_aload 0 (o_getI 2 16 (o_iconst 256 (o_ieq (o_iconst 0 (o_istore 1 (o_jmp 1))) (o_aload 0 (o_iconst 1 (o_vV orc 32 2 2 (o_lconst 0 (o_lret))))))))
def B36_1 (orc : Orc) : K := o_iload 1 (o_aload 0 (o_getI 2 3 (o_ilt (o_aload 0 (o_getR 2 6 (o_iload 1 (o_lald (o_aload 0 (o_getL 2 18 (o_lcmp (o_if0 (o_aload 0 (o_iconst 3 (o_vV orc 32 2 2 (o_jmp 2)))) (o_jmp 2))))))))) (o_aload 0 (o_getL 2 18 (o_lstore 1 (o_aload 0 (o_vV orc 37 1 2 (o_lload 1 (o_lret))))))))))
def B36_2 (orc : Orc) : K := o_iinc 1 1 (o_jmp 1)
def P36 (orc : Orc) (b : Nat) : K := match b with
  | 0 => B36_0 orc
  | 1 => B36_1 orc
  | 2 => B36_2 orc
  | _ => fun _ _ _ => none
def Q36 (b : Nat) : Nat := match b with
  | 0 => 0
  | 1 => 19
  | 2 => 46
  | _ => 0
/-! 37: TruceWall$Reader.step()V -/
def B37_0 (orc : Orc) : K := o_aload 0 (o_getI 2 13 (o_if0 (o_aload 0 (o_getI 2 15 (o_istore 1 (o_jmp 1)))) (o_vret)))
def B37_1 (orc : Orc) : K := o_iload 1 (o_aload 0 (o_getI 2 12 (o_ilt (o_aload 0 (o_getR 2 11 (o_iload 1 (o_iald 2 (o_iconst 10 (o_ieq (o_jmp 2) (o_aload 0 (o_getR 2 11 (o_iload 1 (o_iald 2 (o_iconst 32 (o_ieq (o_jmp 2) (o_jmp 3))))))))))))) (o_jmp 3))))
def B37_2 (orc : Orc) : K := o_iinc 1 1 (o_jmp 1)
def B37_3 (orc : Orc) : K := o_aload 0 (o_iload 1 (o_putI 2 14 (o_iload 1 (o_aload 0 (o_getI 2 12 (o_ilt (o_aload 0 (o_getR 2 11 (o_iload 1 (o_iald 2 (o_sI orc 41 1 (o_if0 (o_aload 0 (o_getR 2 11 (o_iload 1 (o_iald 2 (o_sI orc 42 1 (o_if0 (o_aload 0 (o_iload 1 (o_iconst 1 (o_i2 (fun x y => x + y) (o_putI 2 15 (o_aload 0 (o_aload 0 (o_getR 2 11 (o_iload 1 (o_iald 2 (o_sI orc 43 1 (o_if0 (o_iconst 258 (o_jmp 4)) (o_aload 0 (o_getR 2 11 (o_iload 1 (o_iald 2 (o_jmp 4))))))))))))))))) (o_aload 0 (o_vV orc 40 1 2 (o_vret))))))))) (o_aload 0 (o_vV orc 38 1 2 (o_vret))))))))) (o_aload 0 (o_iconst 259 (o_putI 2 16 (o_vret))))))))))
def B37_4 (orc : Orc) : K := o_putI 2 16 (o_vret)
def P37 (orc : Orc) (b : Nat) : K := match b with
  | 0 => B37_0 orc
  | 1 => B37_1 orc
  | 2 => B37_2 orc
  | 3 => B37_3 orc
  | 4 => B37_4 orc
  | _ => fun _ _ _ => none
def Q37 (b : Nat) : Nat := match b with
  | 0 => 0
  | 1 => 13
  | 2 => 43
  | 3 => 49
  | 4 => 142
  | _ => 0
/-! 38: TruceWall$Reader.stepWord()V -/
def B38_0 (orc : Orc) : K := o_aload 0 (o_getI 2 14 (o_istore 1 (o_jmp 1)))
def B38_1 (orc : Orc) : K := o_iload 1 (o_aload 0 (o_getI 2 12 (o_ilt (o_aload 0 (o_getR 2 11 (o_iload 1 (o_iald 2 (o_sI orc 41 1 (o_if0 (o_jmp 2) (o_iinc 1 1 (o_jmp 1)))))))) (o_jmp 2))))
def B38_2 (orc : Orc) : K := o_aload 0 (o_iload 1 (o_putI 2 15 (o_iload 1 (o_aload 0 (o_getI 2 14 (o_i2 (fun x y => x - y) (o_iconst 8 (o_igt (o_aload 0 (o_iconst 258 (o_putI 2 16 (o_vret)))) (o_aload 0 (o_lconst 0 (o_putL 2 18 (o_aload 0 (o_getI 2 14 (o_istore 2 (o_jmp 3)))))))))))))))
def B38_3 (orc : Orc) : K := o_iload 2 (o_iload 1 (o_ilt (o_aload 0 (o_aload 0 (o_getL 2 18 (o_iconst 8 (o_lsh (fun x y => x <<< (y.toInt64 &&& 63)) (o_aload 0 (o_getR 2 11 (o_iload 2 (o_iald 2 (o_i2l (o_l2 (fun x y => x ||| y) (o_putL 2 18 (o_iinc 2 1 (o_jmp 3)))))))))))))) (o_aload 0 (o_aload 0 (o_iload 1 (o_aload 0 (o_getI 2 14 (o_i2 (fun x y => x - y) (o_vI orc 39 2 2 (o_putI 2 16 (o_vret)))))))))))
def P38 (orc : Orc) (b : Nat) : K := match b with
  | 0 => B38_0 orc
  | 1 => B38_1 orc
  | 2 => B38_2 orc
  | 3 => B38_3 orc
  | _ => fun _ _ _ => none
def Q38 (b : Nat) : Nat := match b with
  | 0 => 0
  | 1 => 5
  | 2 => 31
  | 3 => 65
  | _ => 0
/-! 39: TruceWall$Reader.knownWord(I)I -/
def B39_0 (orc : Orc) : K := o_iconst 0 (o_istore 2 (o_jmp 1))
def B39_1 (orc : Orc) : K := o_iload 2 (o_iconst 17 (o_ilt (o_iload 1 (o_iconst 6 (o_igt (o_iconst 256 (o_iret)) (o_iload 2 (o_iconst 6 (o_i2 (fun x y => x * y) (o_istore 3 (o_iconst 0 (o_istore 4 (o_jmp 2)))))))))) (o_iconst 256 (o_iret))))
def B39_2 (orc : Orc) : K := o_iload 4 (o_iload 1 (o_ilt (o_str 0 (o_iload 3 (o_iload 4 (o_i2 (fun x y => x + y) (o_wI orc 189 2 (o_aload 0 (o_getR 2 11 (o_aload 0 (o_getI 2 14 (o_iload 4 (o_i2 (fun x y => x + y) (o_iald 2 (o_ieq (o_iinc 4 1 (o_jmp 2)) (o_jmp 3)))))))))))))) (o_jmp 3)))
def B39_3 (orc : Orc) : K := o_iload 4 (o_iconst 6 (o_ieq (o_jmp 4) (o_str 0 (o_iload 3 (o_iload 4 (o_i2 (fun x y => x + y) (o_wI orc 189 2 (o_iconst 32 (o_ieq (o_jmp 4) (o_iconst 0 (o_jmp 5)))))))))))
def B39_4 (orc : Orc) : K := o_iconst 1 (o_jmp 5)
def B39_5 (orc : Orc) : K := o_istore 5 (o_iload 4 (o_iload 1 (o_ieq (o_iload 5 (o_if0 (o_jmp 6) (o_iconst 128 (o_iload 2 (o_i2 (fun x y => x + y) (o_iret)))))) (o_jmp 6))))
def B39_6 (orc : Orc) : K := o_iinc 2 1 (o_jmp 1)
def P39 (orc : Orc) (b : Nat) : K := match b with
  | 0 => B39_0 orc
  | 1 => B39_1 orc
  | 2 => B39_2 orc
  | 3 => B39_3 orc
  | 4 => B39_4 orc
  | 5 => B39_5 orc
  | 6 => B39_6 orc
  | _ => fun _ _ _ => none
def Q39 (b : Nat) : Nat := match b with
  | 0 => 0
  | 1 => 2
  | 2 => 22
  | 3 => 58
  | 4 => 79
  | 5 => 84
  | 6 => 103
  | _ => 0
/-! 40: TruceWall$Reader.stepNumber()V -/
def B40_0 (orc : Orc) : K := o_aload 0 (o_getI 2 14 (o_istore 1 (o_aload 0 (o_iconst 0 (o_putI 2 17 (o_jmp 1))))))
def B40_1 (orc : Orc) : K := o_iload 1 (o_aload 0 (o_getI 2 12 (o_ilt (o_aload 0 (o_getR 2 11 (o_iload 1 (o_iald 2 (o_sI orc 42 1 (o_if0 (o_jmp 2) (o_aload 0 (o_aload 0 (o_getI 2 17 (o_iconst 10 (o_i2 (fun x y => x * y) (o_aload 0 (o_getR 2 11 (o_iload 1 (o_iald 2 (o_i2 (fun x y => x + y) (o_iconst 48 (o_i2 (fun x y => x - y) (o_putI 2 17 (o_iinc 1 1 (o_jmp 1))))))))))))))))))))) (o_jmp 2))))
def B40_2 (orc : Orc) : K := o_aload 0 (o_iload 1 (o_putI 2 15 (o_aload 0 (o_iload 1 (o_aload 0 (o_getI 2 14 (o_i2 (fun x y => x - y) (o_iconst 4 (o_igt (o_iconst 258 (o_jmp 3)) (o_iconst 257 (o_jmp 3)))))))))))
def B40_3 (orc : Orc) : K := o_putI 2 16 (o_vret)
def P40 (orc : Orc) (b : Nat) : K := match b with
  | 0 => B40_0 orc
  | 1 => B40_1 orc
  | 2 => B40_2 orc
  | 3 => B40_3 orc
  | _ => fun _ _ _ => none
def Q40 (b : Nat) : Nat := match b with
  | 0 => 0
  | 1 => 10
  | 2 => 57
  | 3 => 82
  | _ => 0
/-! 41: TruceWall$Reader.isLetter(C)Z -/
def B41_0 (orc : Orc) : K := o_iload 0 (o_iconst 97 (o_ilt (o_iconst 0 (o_zret)) (o_iload 0 (o_iconst 122 (o_igt (o_iconst 0 (o_zret)) (o_iconst 1 (o_zret)))))))
def P41 (orc : Orc) (b : Nat) : K := match b with
  | 0 => B41_0 orc
  | _ => fun _ _ _ => none
def Q41 (b : Nat) : Nat := match b with
  | 0 => 0
  | _ => 0
/-! 42: TruceWall$Reader.isDigit(C)Z -/
def B42_0 (orc : Orc) : K := o_iload 0 (o_iconst 48 (o_ilt (o_iconst 0 (o_zret)) (o_iload 0 (o_iconst 57 (o_igt (o_iconst 0 (o_zret)) (o_iconst 1 (o_zret)))))))
def P42 (orc : Orc) (b : Nat) : K := match b with
  | 0 => B42_0 orc
  | _ => fun _ _ _ => none
def Q42 (b : Nat) : Nat := match b with
  | 0 => 0
  | _ => 0
/-! 43: TruceWall$Reader.isSign(C)Z -/
def B43_0 (orc : Orc) : K := o_iload 0 (o_iconst 40 (o_ieq (o_jmp 1) (o_iload 0 (o_iconst 41 (o_ieq (o_jmp 1) (o_iload 0 (o_iconst 60 (o_ieq (o_jmp 1) (o_iload 0 (o_iconst 61 (o_ieq (o_jmp 1) (o_iload 0 (o_iconst 43 (o_ieq (o_jmp 1) (o_iload 0 (o_iconst 45 (o_ieq (o_jmp 1) (o_iload 0 (o_iconst 42 (o_ieq (o_jmp 1) (o_iload 0 (o_iconst 59 (o_ieq (o_jmp 1) (o_iconst 0 (o_zret)))))))))))))))))))))))))
def B43_1 (orc : Orc) : K := o_iconst 1 (o_zret)
def P43 (orc : Orc) (b : Nat) : K := match b with
  | 0 => B43_0 orc
  | 1 => B43_1 orc
  | _ => fun _ _ _ => none
def Q43 (b : Nat) : Nat := match b with
  | 0 => 0
  | 1 => 48
  | _ => 0
/-! 44: TruceWall$Reckoner.<init>()V -/
def B44_0 (orc : Orc) : K := o_aload 0 (o_obj (o_aload 0 (o_iconst 32 (o_newa 0 (o_putR 3 0 (o_aload 0 (o_iconst 0 (o_putI 3 1 (o_vret)))))))))
def P44 (orc : Orc) (b : Nat) : K := match b with
  | 0 => B44_0 orc
  | _ => fun _ _ _ => none
def Q44 (b : Nat) : Nat := match b with
  | 0 => 0
  | _ => 0
/-! 45: TruceWall$Reckoner.worth([IIIII)I -/
def B45_0 (orc : Orc) : K := o_aload 0 (o_iconst 0 (o_putI 3 1 (o_iconst 0 (o_istore 6 (o_jmp 1)))))
def B45_1 (orc : Orc) : K := o_iload 6 (o_aload 1 (o_alen (o_ilt (o_aload 1 (o_iload 6 (o_iald 0 (o_istore 7 (o_iload 7 (o_i1 (fun x => -x) (o_sw [(138, o_aload 0 (o_iload 2 (o_vV orc 47 2 3 (o_jmp 3)))), (139, o_aload 0 (o_iload 3 (o_vV orc 47 2 3 (o_jmp 3)))), (140, o_aload 0 (o_iload 4 (o_vV orc 47 2 3 (o_jmp 3)))), (141, o_aload 0 (o_iload 5 (o_vV orc 47 2 3 (o_jmp 3)))), (142, o_aload 0 (o_aload 0 (o_vI orc 48 1 3 (o_if0 (o_iconst 1 (o_jmp 2)) (o_iconst 0 (o_jmp 2))))))] (o_iload 7 (o_ifn (o_aload 0 (o_vI orc 48 1 3 (o_istore 8 (o_aload 0 (o_iload 7 (o_i1 (fun x => -x) (o_aload 0 (o_vI orc 48 1 3 (o_iload 8 (o_sI orc 46 3 (o_vV orc 47 2 3 (o_jmp 3)))))))))))) (o_aload 0 (o_iload 7 (o_vV orc 47 2 3 (o_jmp 3))))))))))))) (o_aload 0 (o_vI orc 48 1 3 (o_iret))))))
def B45_2 (orc : Orc) : K := o_vV orc 47 2 3 (o_jmp 3)
def B45_3 (orc : Orc) : K := o_iinc 6 1 (o_jmp 1)
def P45 (orc : Orc) (b : Nat) : K := match b with
  | 0 => B45_0 orc
  | 1 => B45_1 orc
  | 2 => B45_2 orc
  | 3 => B45_3 orc
  | _ => fun _ _ _ => none
def Q45 (b : Nat) : Nat := match b with
  | 0 => 0
  | 1 => 8
  | 2 => 107
  | 3 => 149
  | _ => 0
/-! 46: TruceWall$Reckoner.joined(III)I -/
def B46_0 (orc : Orc) : K := o_iload 0 (o_sw [(42, o_iload 1 (o_iload 2 (o_i2 (fun x y => x * y) (o_iret)))), (43, o_iload 1 (o_iload 2 (o_i2 (fun x y => x + y) (o_iret)))), (45, o_iload 1 (o_iload 2 (o_i2 (fun x y => x - y) (o_iret)))), (60, o_iload 1 (o_iload 2 (o_ilt (o_iconst 1 (o_iret)) (o_iconst 0 (o_iret))))), (61, o_iload 1 (o_iload 2 (o_ieq (o_iconst 1 (o_iret)) (o_iconst 0 (o_iret))))), (143, o_iload 1 (o_if0 (o_iconst 0 (o_iret)) (o_iload 2 (o_if0 (o_iconst 0 (o_iret)) (o_iconst 1 (o_iret))))))] (o_iload 1 (o_if0 (o_iload 2 (o_if0 (o_iconst 0 (o_iret)) (o_jmp 1))) (o_jmp 1))))
def B46_1 (orc : Orc) : K := o_iconst 1 (o_iret)
def P46 (orc : Orc) (b : Nat) : K := match b with
  | 0 => B46_0 orc
  | 1 => B46_1 orc
  | _ => fun _ _ _ => none
def Q46 (b : Nat) : Nat := match b with
  | 0 => 0
  | 1 => 116
  | _ => 0
/-! 47: TruceWall$Reckoner.push(I)V -/
def B47_0 (orc : Orc) : K := o_aload 0 (o_getI 3 1 (o_aload 0 (o_getR 3 0 (o_alen (o_ilt (o_aload 0 (o_getR 3 0 (o_aload 0 (o_getI 3 1 (o_iload 1 (o_iast 0 (fun x => x) (o_aload 0 (o_dup (o_getI 3 1 (o_iconst 1 (o_i2 (fun x y => x + y) (o_putI 3 1 (o_vret))))))))))))) (o_vret))))))
def P47 (orc : Orc) (b : Nat) : K := match b with
  | 0 => B47_0 orc
  | _ => fun _ _ _ => none
def Q47 (b : Nat) : Nat := match b with
  | 0 => 0
  | _ => 0
/-! 48: TruceWall$Reckoner.pop()I -/
def B48_0 (orc : Orc) : K := o_aload 0 (o_getI 3 1 (o_ifp (o_aload 0 (o_dup (o_getI 3 1 (o_iconst 1 (o_i2 (fun x y => x - y) (o_putI 3 1 (o_jmp 1))))))) (o_jmp 1)))
def B48_1 (orc : Orc) : K := o_aload 0 (o_getR 3 0 (o_aload 0 (o_getI 3 1 (o_iald 0 (o_iret)))))
def P48 (orc : Orc) (b : Nat) : K := match b with
  | 0 => B48_0 orc
  | 1 => B48_1 orc
  | _ => fun _ _ _ => none
def Q48 (b : Nat) : Nat := match b with
  | 0 => 0
  | 1 => 17
  | _ => 0
/-! 49: TruceWall$Site.<init>()V -/
def B49_0 (orc : Orc) : K := o_aload 0 (o_obj (o_aload 0 (o_iconst 60 (o_newa 0 (o_putR 4 0 (o_aload 0 (o_iconst 0 (o_putI 4 1 (o_aload 0 (o_lconst 0 (o_putL 4 2 (o_aload 0 (o_iconst 0 (o_putI 4 3 (o_aload 0 (o_iconst 2 (o_newa 0 (o_putR 4 4 (o_aload 0 (o_iconst 10 (o_newa 0 (o_putR 4 5 (o_aload 0 (o_iconst 10 (o_newa 0 (o_putR 4 6 (o_aload 0 (o_new 3 (o_dup (o_nV orc 44 1 (o_putR 4 7 (o_vret))))))))))))))))))))))))))))))))
def P49 (orc : Orc) (b : Nat) : K := match b with
  | 0 => B49_0 orc
  | _ => fun _ _ _ => none
def Q49 (b : Nat) : Nat := match b with
  | 0 => 0
  | _ => 0
/-! 50: TruceWall$Site.town()I -/
def B50_0 (orc : Orc) : K := o_aload 0 (o_getI 4 1 (o_iconst 1 (o_i2 (fun x y => x &&& y) (o_iret))))
def P50 (orc : Orc) (b : Nat) : K := match b with
  | 0 => B50_0 orc
  | _ => fun _ _ _ => none
def Q50 (b : Nat) : Nat := match b with
  | 0 => 0
  | _ => 0
/-! 51: TruceWall$Site.clear()V -/
def B51_0 (orc : Orc) : K := o_aload 0 (o_iconst 0 (o_putI 4 1 (o_aload 0 (o_lconst 0 (o_putL 4 2 (o_aload 0 (o_iconst 0 (o_putI 4 3 (o_aload 0 (o_getR 4 4 (o_iconst 0 (o_iconst 0 (o_iast 0 (fun x => x) (o_aload 0 (o_getR 4 4 (o_iconst 1 (o_iconst 0 (o_iast 0 (fun x => x) (o_iconst 0 (o_istore 1 (o_jmp 1)))))))))))))))))))))
def B51_1 (orc : Orc) : K := o_iload 1 (o_iconst 10 (o_ilt (o_aload 0 (o_getR 4 5 (o_iload 1 (o_iconst 0 (o_iast 0 (fun x => x) (o_aload 0 (o_getR 4 6 (o_iload 1 (o_iconst (-1) (o_iast 0 (fun x => x) (o_iinc 1 1 (o_jmp 1)))))))))))) (o_vret)))
def P51 (orc : Orc) (b : Nat) : K := match b with
  | 0 => B51_0 orc
  | 1 => B51_1 orc
  | _ => fun _ _ _ => none
def Q51 (b : Nat) : Nat := match b with
  | 0 => 0
  | 1 => 31
  | _ => 0
/-! 52: TruceWall$Site.take([I)V -/
def B52_0 (orc : Orc) : K := o_aload 1 (o_iconst 0 (o_aload 0 (o_getR 4 0 (o_iconst 0 (o_iconst 60 (o_copy (o_vret)))))))
def P52 (orc : Orc) (b : Nat) : K := match b with
  | 0 => B52_0 orc
  | _ => fun _ _ _ => none
def Q52 (b : Nat) : Nat := match b with
  | 0 => 0
  | _ => 0
/-! 53: TruceWall$Site.replay(LTruceWall$Truce;I)V -/
def B53_0 (orc : Orc) : K := o_aload 0 (o_vV orc 51 1 4 (o_iconst 0 (o_istore 3 (o_jmp 1))))
def B53_1 (orc : Orc) : K := o_iload 3 (o_iload 2 (o_ilt (o_iload 3 (o_aload 0 (o_getR 4 0 (o_alen (o_ilt (o_aload 0 (o_aload 1 (o_aload 0 (o_getR 4 0 (o_iload 3 (o_iald 0 (o_vV orc 54 3 4 (o_iinc 3 1 (o_jmp 1))))))))) (o_vret)))))) (o_vret)))
def P53 (orc : Orc) (b : Nat) : K := match b with
  | 0 => B53_0 orc
  | 1 => B53_1 orc
  | _ => fun _ _ _ => none
def Q53 (b : Nat) : Nat := match b with
  | 0 => 0
  | 1 => 6
  | _ => 0
/-! 54: TruceWall$Site.perform(LTruceWall$Truce;I)V -/
def B54_0 (orc : Orc) : K := o_aload 0 (o_getI 4 1 (o_aload 0 (o_getR 4 0 (o_alen (o_ilt (o_iload 2 (o_sI orc 2 1 (o_if0 (o_aload 0 (o_aload 1 (o_iload 2 (o_vV orc 55 3 4 (o_jmp 1))))) (o_jmp 1)))) (o_vret))))))
def B54_1 (orc : Orc) : K := o_aload 0 (o_aload 1 (o_aload 0 (o_getL 4 2 (o_aload 0 (o_vI orc 50 1 4 (o_iload 2 (o_vL orc 73 4 5 (o_putL 4 2 (o_aload 0 (o_getR 4 0 (o_aload 0 (o_getI 4 1 (o_iload 2 (o_iast 0 (fun x => x) (o_aload 0 (o_dup (o_getI 4 1 (o_iconst 1 (o_i2 (fun x y => x + y) (o_putI 4 1 (o_vret)))))))))))))))))))))
def P54 (orc : Orc) (b : Nat) : K := match b with
  | 0 => B54_0 orc
  | 1 => B54_1 orc
  | _ => fun _ _ _ => none
def Q54 (b : Nat) : Nat := match b with
  | 0 => 0
  | 1 => 26
  | _ => 0
/-! 55: TruceWall$Site.lodge(LTruceWall$Truce;I)V -/
def B55_0 (orc : Orc) : K := o_aload 1 (o_getR 5 4 (o_iload 2 (o_sI orc 3 1 (o_iald 0 (o_istore 3 (o_iload 2 (o_sI orc 4 1 (o_istore 4 (o_iload 2 (o_sI orc 5 1 (o_istore 5 (o_aload 0 (o_getL 4 2 (o_iload 4 (o_sI orc 57 2 (o_istore 6 (o_iload 3 (o_iconst 4 (o_ieq (o_iconst 1 (o_aload 0 (o_vI orc 50 1 4 (o_i2 (fun x y => x - y) (o_jmp 1))))) (o_aload 0 (o_vI orc 50 1 4 (o_jmp 1))))))))))))))))))))))
def B55_1 (orc : Orc) : K := o_istore 7 (o_iload 3 (o_iconst 3 (o_ieq (o_aload 0 (o_getR 4 6 (o_iload 4 (o_iload 7 (o_iast 0 (fun x => x) (o_aload 0 (o_getR 4 6 (o_aload 1 (o_iload 4 (o_vI orc 63 2 5 (o_iload 7 (o_iast 0 (fun x => x) (o_aload 0 (o_dup (o_getI 4 3 (o_aload 0 (o_getR 4 7 (o_aload 1 (o_getR 5 6 (o_iconst 2 (o_iload 6 (o_iconst 0 (o_aload 0 (o_getI 4 1 (o_vI orc 45 6 3 (o_i2 (fun x y => x + y) (o_putI 4 3 (o_vret)))))))))))))))))))))))))))) (o_iconst 0 (o_istore 8 (o_iload 4 (o_istore 9 (o_jmp 2))))))))
def B55_2 (orc : Orc) : K := o_iload 9 (o_iload 4 (o_iload 5 (o_i2 (fun x y => x + y) (o_ilt (o_iload 6 (o_aload 0 (o_getL 4 2 (o_iload 9 (o_sI orc 57 2 (o_i2 (fun x y => x - y) (o_istore 10 (o_iload 8 (o_iload 10 (o_i2 (fun x y => x + y) (o_istore 8 (o_aload 0 (o_getR 4 5 (o_iload 9 (o_dup2 (o_iald 0 (o_iload 10 (o_i2 (fun x y => x + y) (o_iast 0 (fun x => x) (o_aload 0 (o_getR 4 6 (o_iload 9 (o_iload 7 (o_iast 0 (fun x => x) (o_iinc 9 1 (o_jmp 2)))))))))))))))))))))))))) (o_aload 0 (o_getR 4 4 (o_iload 7 (o_dup2 (o_iald 0 (o_iload 8 (o_i2 (fun x y => x + y) (o_iast 0 (fun x => x) (o_aload 0 (o_dup (o_getI 4 3 (o_aload 0 (o_getR 4 7 (o_aload 1 (o_getR 5 6 (o_iload 5 (o_iload 6 (o_iload 8 (o_aload 0 (o_getI 4 1 (o_vI orc 45 6 3 (o_i2 (fun x y => x + y) (o_putI 4 3 (o_vret))))))))))))))))))))))))))))
def P55 (orc : Orc) (b : Nat) : K := match b with
  | 0 => B55_0 orc
  | 1 => B55_1 orc
  | 2 => B55_2 orc
  | _ => fun _ _ _ => none
def Q55 (b : Nat) : Nat := match b with
  | 0 => 0
  | 1 => 51
  | 2 => 116
  | _ => 0
/-! 56: TruceWall$Truce.<init>(LTruceWall$Reader;)V -/
def B56_0 (orc : Orc) : K := o_aload 0 (o_obj (o_aload 0 (o_aload 1 (o_getI 2 0 (o_putI 5 0 (o_aload 0 (o_aload 1 (o_getI 2 1 (o_putI 5 1 (o_aload 0 (o_aload 1 (o_getI 2 2 (o_putI 5 2 (o_aload 0 (o_aload 1 (o_getI 2 3 (o_putI 5 3 (o_aload 0 (o_aload 1 (o_getR 2 4 (o_clone (o_castA (o_putR 5 4 (o_aload 0 (o_aload 1 (o_getR 2 5 (o_clone (o_castA (o_putR 5 5 (o_aload 0 (o_aload 1 (o_vR orc 20 1 2 (o_putR 5 6 (o_aload 0 (o_aload 0 (o_getI 5 0 (o_iconst 5 (o_igt (o_jmp 1) (o_aload 0 (o_getI 5 1 (o_iconst 1 (o_i2 (fun x y => x + y) (o_aload 0 (o_getI 5 0 (o_sI orc 60 2 (o_iconst 256 (o_igt (o_jmp 1) (o_iconst 1 (o_jmp 2)))))))))))))))))))))))))))))))))))))))))))))))))
def B56_1 (orc : Orc) : K := o_iconst 0 (o_jmp 2)
def B56_2 (orc : Orc) : K := o_putZ 5 7 (o_aload 0 (o_aload 0 (o_vR orc 61 1 5 (o_putR 5 8 (o_vret)))))
def P56 (orc : Orc) (b : Nat) : K := match b with
  | 0 => B56_0 orc
  | 1 => B56_1 orc
  | 2 => B56_2 orc
  | _ => fun _ _ _ => none
def Q56 (b : Nat) : Nat := match b with
  | 0 => 0
  | 1 => 104
  | 2 => 105
  | _ => 0
/-! 57: TruceWall$Truce.heightAt(JI)I -/
def B57_0 (orc : Orc) : K := o_lload 0 (o_iconst 4 (o_iload 2 (o_i2 (fun x y => x * y) (o_lsh (fun x y => (x.toUInt64 >>> (y.toInt64.toUInt64 &&& Int64.toUInt64 63)).toInt64) (o_l2i (o_iconst 15 (o_i2 (fun x y => x &&& y) (o_istore 3 (o_iload 3 (o_iconst 8 (o_ilt (o_iload 3 (o_iret)) (o_iconst 0 (o_iret)))))))))))))
def P57 (orc : Orc) (b : Nat) : K := match b with
  | 0 => B57_0 orc
  | _ => fun _ _ _ => none
def Q57 (b : Nat) : Nat := match b with
  | 0 => 0
  | _ => 0
/-! 58: TruceWall$Truce.gateAt(JI)I -/
def B58_0 (orc : Orc) : K := o_lload 0 (o_iconst 4 (o_iload 2 (o_i2 (fun x y => x * y) (o_lsh (fun x y => (x.toUInt64 >>> (y.toInt64.toUInt64 &&& Int64.toUInt64 63)).toInt64) (o_l2i (o_iconst 15 (o_i2 (fun x y => x &&& y) (o_istore 3 (o_iload 3 (o_iconst 8 (o_ilt (o_iconst (-1) (o_iret)) (o_iload 3 (o_iconst 8 (o_i2 (fun x y => x - y) (o_iret)))))))))))))))
def P58 (orc : Orc) (b : Nat) : K := match b with
  | 0 => B58_0 orc
  | _ => fun _ _ _ => none
def Q58 (b : Nat) : Nat := match b with
  | 0 => 0
  | _ => 0
/-! 59: TruceWall$Truce.withPlace(JII)J -/
def B59_0 (orc : Orc) : K := o_iconst 4 (o_iload 2 (o_i2 (fun x y => x * y) (o_istore 4 (o_lload 0 (o_lconst 15 (o_iload 4 (o_lsh (fun x y => x <<< (y.toInt64 &&& 63)) (o_lconst (-1) (o_l2 (fun x y => x ^^^ y) (o_l2 (fun x y => x &&& y) (o_iload 3 (o_i2l (o_iload 4 (o_lsh (fun x y => x <<< (y.toInt64 &&& 63)) (o_l2 (fun x y => x ||| y) (o_lret))))))))))))))))
def P59 (orc : Orc) (b : Nat) : K := match b with
  | 0 => B59_0 orc
  | _ => fun _ _ _ => none
def Q59 (b : Nat) : Nat := match b with
  | 0 => 0
  | _ => 0
/-! 60: TruceWall$Truce.power(II)I -/
def B60_0 (orc : Orc) : K := o_iconst 1 (o_istore 2 (o_iconst 0 (o_istore 3 (o_jmp 1))))
def B60_1 (orc : Orc) : K := o_iload 3 (o_iload 1 (o_ilt (o_iload 2 (o_iload 0 (o_i2 (fun x y => x * y) (o_istore 2 (o_iinc 3 1 (o_jmp 1)))))) (o_iload 2 (o_iret))))
def P60 (orc : Orc) (b : Nat) : K := match b with
  | 0 => B60_0 orc
  | 1 => B60_1 orc
  | _ => fun _ _ _ => none
def Q60 (b : Nat) : Nat := match b with
  | 0 => 0
  | 1 => 4
  | _ => 0
/-! 61: TruceWall$Truce.allCandidates()[I -/
def B61_0 (orc : Orc) : K := o_iconst 250 (o_newa 0 (o_astore 1 (o_iconst 0 (o_istore 2 (o_iconst 0 (o_istore 3 (o_jmp 1)))))))
def B61_1 (orc : Orc) : K := o_iload 3 (o_aload 0 (o_getI 5 3 (o_ilt (o_iconst 0 (o_istore 4 (o_jmp 2))) (o_iconst 0 (o_istore 3 (o_jmp 7))))))
def B61_2 (orc : Orc) : K := o_iload 4 (o_aload 0 (o_getI 5 0 (o_ilt (o_iconst 1 (o_istore 5 (o_jmp 3))) (o_iinc 3 1 (o_jmp 1)))))
def B61_3 (orc : Orc) : K := o_iload 5 (o_aload 0 (o_getR 5 5 (o_iload 3 (o_iald 0 (o_igt (o_iinc 4 1 (o_jmp 2)) (o_aload 0 (o_getR 5 4 (o_iload 3 (o_iald 0 (o_iconst 3 (o_ieq (o_jmp 4) (o_iload 4 (o_iload 5 (o_i2 (fun x y => x + y) (o_aload 0 (o_getI 5 0 (o_igt (o_iconst 0 (o_jmp 5)) (o_jmp 4))))))))))))))))))
def B61_4 (orc : Orc) : K := o_iconst 1 (o_jmp 5)
def B61_5 (orc : Orc) : K := o_istore 6 (o_iload 6 (o_if0 (o_jmp 6) (o_aload 0 (o_iload 3 (o_iload 4 (o_iload 5 (o_vI orc 62 4 5 (o_if0 (o_jmp 6) (o_iload 2 (o_aload 1 (o_alen (o_ilt (o_aload 1 (o_iload 2 (o_iload 3 (o_iload 4 (o_iload 5 (o_sI orc 0 3 (o_iast 0 (fun x => x) (o_iinc 2 1 (o_jmp 6))))))))) (o_jmp 6)))))))))))))
def B61_6 (orc : Orc) : K := o_iinc 5 1 (o_jmp 3)
def B61_7 (orc : Orc) : K := o_iload 3 (o_aload 0 (o_getI 5 0 (o_ilt (o_aload 0 (o_getI 5 2 (o_ifp (o_iload 2 (o_aload 1 (o_alen (o_ilt (o_aload 1 (o_iload 2 (o_iload 3 (o_sI orc 1 1 (o_iast 0 (fun x => x) (o_iinc 2 1 (o_iinc 3 1 (o_jmp 7)))))))) (o_jmp 8))))) (o_jmp 8)))) (o_jmp 8))))
def B61_8 (orc : Orc) : K := o_iload 2 (o_newa 0 (o_astore 3 (o_aload 1 (o_iconst 0 (o_aload 3 (o_iconst 0 (o_iload 2 (o_copy (o_aload 3 (o_aret))))))))))
def P61 (orc : Orc) (b : Nat) : K := match b with
  | 0 => B61_0 orc
  | 1 => B61_1 orc
  | 2 => B61_2 orc
  | 3 => B61_3 orc
  | 4 => B61_4 orc
  | 5 => B61_5 orc
  | 6 => B61_6 orc
  | 7 => B61_7 orc
  | 8 => B61_8 orc
  | _ => fun _ _ _ => none
def Q61 (b : Nat) : Nat := match b with
  | 0 => 0
  | 1 => 10
  | 2 => 21
  | 3 => 33
  | 4 => 66
  | 5 => 71
  | 6 => 110
  | 7 => 130
  | 8 => 167
  | _ => 0
/-! 62: TruceWall$Truce.isAsTold(III)Z -/
def B62_0 (orc : Orc) : K := o_iload 1 (o_ifn (o_iconst 0 (o_zret)) (o_iload 1 (o_aload 0 (o_getI 5 3 (o_ilt (o_iload 2 (o_ifn (o_iconst 0 (o_zret)) (o_iload 2 (o_aload 0 (o_getI 5 0 (o_ilt (o_aload 0 (o_getR 5 4 (o_iload 1 (o_iald 0 (o_iconst 5 (o_ieq (o_iload 3 (o_iconst 1 (o_ilt (o_iconst 0 (o_zret)) (o_iload 3 (o_aload 0 (o_getR 5 5 (o_iload 1 (o_iald 0 (o_igt (o_iconst 0 (o_zret)) (o_iconst 1 (o_zret))))))))))) (o_aload 0 (o_getR 5 4 (o_iload 1 (o_iald 0 (o_iconst 3 (o_ieq (o_iload 2 (o_aload 0 (o_iload 2 (o_vI orc 63 2 5 (o_ieq (o_iconst 1 (o_jmp 2)) (o_jmp 1)))))) (o_jmp 1))))))))))))) (o_iconst 0 (o_zret)))))))) (o_iconst 0 (o_zret)))))))
def B62_1 (orc : Orc) : K := o_iconst 0 (o_jmp 2)
def B62_2 (orc : Orc) : K := o_istore 4 (o_iload 3 (o_aload 0 (o_getR 5 5 (o_iload 1 (o_iald 0 (o_ieq (o_iload 4 (o_if0 (o_iconst 1 (o_zret)) (o_iconst 0 (o_zret)))) (o_iconst 0 (o_zret))))))))
def P62 (orc : Orc) (b : Nat) : K := match b with
  | 0 => B62_0 orc
  | 1 => B62_1 orc
  | 2 => B62_2 orc
  | _ => fun _ _ _ => none
def Q62 (b : Nat) : Nat := match b with
  | 0 => 0
  | 1 => 80
  | 2 => 81
  | _ => 0
/-! 63: TruceWall$Truce.twinOf(I)I -/
def B63_0 (orc : Orc) : K := o_aload 0 (o_getI 5 0 (o_iconst 1 (o_i2 (fun x y => x - y) (o_iload 1 (o_i2 (fun x y => x - y) (o_iret))))))
def P63 (orc : Orc) (b : Nat) : K := match b with
  | 0 => B63_0 orc
  | _ => fun _ _ _ => none
def Q63 (b : Nat) : Nat := match b with
  | 0 => 0
  | _ => 0
/-! 64: TruceWall$Truce.stoneHindrance(JIII)I -/
def B64_0 (orc : Orc) : K := o_aload 0 (o_getR 5 4 (o_iload 3 (o_iald 0 (o_istore 6 (o_iload 6 (o_iconst 3 (o_ieq (o_aload 0 (o_lload 1 (o_iload 4 (o_vI orc 65 3 5 (o_iret))))) (o_iload 4 (o_iload 5 (o_i2 (fun x y => x + y) (o_aload 0 (o_getI 5 0 (o_igt (o_iconst 3 (o_iret)) (o_iconst 1 (o_iconst 4 (o_iload 5 (o_i2 (fun x y => x * y) (o_i2 (fun x y => x <<< (y &&& 31)) (o_iconst 1 (o_i2 (fun x y => x - y) (o_istore 7 (o_lload 1 (o_iconst 4 (o_iload 4 (o_i2 (fun x y => x * y) (o_lsh (fun x y => (x.toUInt64 >>> (y.toInt64.toUInt64 &&& Int64.toUInt64 63)).toInt64) (o_l2i (o_iload 7 (o_i2 (fun x y => x &&& y) (o_istore 8 (o_iload 8 (o_iconst 34952 (o_i2 (fun x y => x &&& y) (o_if0 (o_iload 8 (o_iconst 15 (o_i2 (fun x y => x &&& y) (o_istore 9 (o_iload 8 (o_iload 9 (o_iconst 4369 (o_i2 (fun x y => x * y) (o_iload 7 (o_i2 (fun x y => x &&& y) (o_ieq (o_iconst 1 (o_jmp 1)) (o_iconst 0 (o_jmp 1))))))))))))) (o_iconst 4 (o_iret))))))))))))))))))))))))))))))))))))
def B64_1 (orc : Orc) : K := o_istore 10 (o_iload 6 (o_iconst 2 (o_ieq (o_aload 0 (o_lload 1 (o_iload 4 (o_iload 9 (o_vI orc 66 4 5 (o_istore 10 (o_jmp 2))))))) (o_iload 6 (o_iconst 1 (o_ieq (o_iload 8 (o_iload 9 (o_iload 5 (o_sI orc 67 3 (o_istore 10 (o_jmp 2)))))) (o_jmp 2)))))))
def B64_2 (orc : Orc) : K := o_iload 10 (o_if0 (o_iconst 5 (o_iret)) (o_iload 9 (o_aload 0 (o_getI 5 1 (o_ilt (o_iconst 0 (o_iret)) (o_iconst 6 (o_iret)))))))
def P64 (orc : Orc) (b : Nat) : K := match b with
  | 0 => B64_0 orc
  | 1 => B64_1 orc
  | 2 => B64_2 orc
  | _ => fun _ _ _ => none
def Q64 (b : Nat) : Nat := match b with
  | 0 => 0
  | 1 => 94
  | 2 => 133
  | _ => 0
/-! 65: TruceWall$Truce.twinHindrance(JI)I -/
def B65_0 (orc : Orc) : K := o_aload 0 (o_iload 3 (o_vI orc 63 2 5 (o_istore 4 (o_lload 1 (o_iload 3 (o_sI orc 58 2 (o_iconst (-1) (o_ieq (o_lload 1 (o_iload 4 (o_sI orc 58 2 (o_iconst (-1) (o_ieq (o_lload 1 (o_iload 3 (o_sI orc 57 2 (o_aload 0 (o_getI 5 1 (o_ilt (o_lload 1 (o_iload 4 (o_sI orc 57 2 (o_aload 0 (o_getI 5 1 (o_ilt (o_iconst 0 (o_iret)) (o_iconst 6 (o_iret)))))))) (o_iconst 6 (o_iret)))))))) (o_iconst 4 (o_iret))))))) (o_iconst 4 (o_iret))))))))))
def P65 (orc : Orc) (b : Nat) : K := match b with
  | 0 => B65_0 orc
  | _ => fun _ _ _ => none
def Q65 (b : Nat) : Nat := match b with
  | 0 => 0
  | _ => 0
/-! 66: TruceWall$Truce.roundStands(JII)Z -/
def B66_0 (orc : Orc) : K := o_iload 3 (o_iconst 1 (o_i2 (fun x y => x - y) (o_istore 5 (o_jmp 1))))
def B66_1 (orc : Orc) : K := o_iload 5 (o_iload 3 (o_iconst 1 (o_i2 (fun x y => x + y) (o_igt (o_iconst 1 (o_zret)) (o_iload 5 (o_ifn (o_jmp 2) (o_iload 5 (o_aload 0 (o_getI 5 0 (o_ilt (o_lload 1 (o_iload 5 (o_sI orc 58 2 (o_iconst (-1) (o_ieq (o_iconst 1 (o_jmp 3)) (o_jmp 2)))))) (o_jmp 2)))))))))))
def B66_2 (orc : Orc) : K := o_iconst 0 (o_jmp 3)
def B66_3 (orc : Orc) : K := o_istore 6 (o_iload 6 (o_if0 (o_jmp 4) (o_lload 1 (o_iload 5 (o_sI orc 57 2 (o_iload 4 (o_igt (o_jmp 4) (o_iconst 0 (o_zret)))))))))
def B66_4 (orc : Orc) : K := o_iinc 5 2 (o_jmp 1)
def P66 (orc : Orc) (b : Nat) : K := match b with
  | 0 => B66_0 orc
  | 1 => B66_1 orc
  | 2 => B66_2 orc
  | 3 => B66_3 orc
  | 4 => B66_4 orc
  | _ => fun _ _ _ => none
def Q66 (b : Nat) : Nat := match b with
  | 0 => 0
  | 1 => 5
  | 2 => 41
  | 3 => 42
  | 4 => 62
  | _ => 0
/-! 67: TruceWall$Truce.bridgeStands(III)Z -/
def B67_0 (orc : Orc) : K := o_iconst 1 (o_istore 3 (o_jmp 1))
def B67_1 (orc : Orc) : K := o_iload 3 (o_iload 2 (o_iconst 1 (o_i2 (fun x y => x - y) (o_ilt (o_iload 0 (o_iconst 4 (o_iload 3 (o_i2 (fun x y => x * y) (o_i2 (fun x y => x >>> (y &&& 31)) (o_iconst 15 (o_i2 (fun x y => x &&& y) (o_iload 1 (o_igt (o_iconst 0 (o_zret)) (o_iinc 3 1 (o_jmp 1))))))))))) (o_iload 0 (o_iconst 4 (o_iload 2 (o_iconst 1 (o_i2 (fun x y => x - y) (o_i2 (fun x y => x * y) (o_i2 (fun x y => x >>> (y &&& 31)) (o_iload 1 (o_ieq (o_iconst 1 (o_zret)) (o_iconst 0 (o_zret)))))))))))))))
def P67 (orc : Orc) (b : Nat) : K := match b with
  | 0 => B67_0 orc
  | 1 => B67_1 orc
  | _ => fun _ _ _ => none
def Q67 (b : Nat) : Nat := match b with
  | 0 => 0
  | 1 => 2
  | _ => 0
/-! 68: TruceWall$Truce.gateHindrance(JII)I -/
def B68_0 (orc : Orc) : K := o_aload 0 (o_lload 1 (o_iload 3 (o_vI orc 69 3 5 (o_if0 (o_iconst 3 (o_iret)) (o_lload 1 (o_iload 4 (o_sI orc 58 2 (o_iconst (-1) (o_ieq (o_lload 1 (o_iload 4 (o_sI orc 57 2 (o_if0 (o_iconst 0 (o_iret)) (o_iconst 5 (o_iret)))))) (o_iconst 4 (o_iret)))))))))))
def P68 (orc : Orc) (b : Nat) : K := match b with
  | 0 => B68_0 orc
  | _ => fun _ _ _ => none
def Q68 (b : Nat) : Nat := match b with
  | 0 => 0
  | _ => 0
/-! 69: TruceWall$Truce.gatesLeft(JI)I -/
def B69_0 (orc : Orc) : K := o_aload 0 (o_getI 5 2 (o_lload 1 (o_iconst 40 (o_iload 3 (o_i2 (fun x y => x + y) (o_lsh (fun x y => (x.toUInt64 >>> (y.toInt64.toUInt64 &&& Int64.toUInt64 63)).toInt64) (o_l2i (o_iconst 1 (o_i2 (fun x y => x &&& y) (o_i2 (fun x y => x - y) (o_iret)))))))))))
def P69 (orc : Orc) (b : Nat) : K := match b with
  | 0 => B69_0 orc
  | _ => fun _ _ _ => none
def Q69 (b : Nat) : Nat := match b with
  | 0 => 0
  | _ => 0
/-! 70: TruceWall$Truce.withGate(JII)J -/
def B70_0 (orc : Orc) : K := o_lload 0 (o_iload 2 (o_iconst 8 (o_iload 3 (o_i2 (fun x y => x + y) (o_sL orc 59 3 (o_lconst 1 (o_iconst 40 (o_iload 3 (o_i2 (fun x y => x + y) (o_lsh (fun x y => x <<< (y.toInt64 &&& 63)) (o_l2 (fun x y => x ||| y) (o_lret))))))))))))
def P70 (orc : Orc) (b : Nat) : K := match b with
  | 0 => B70_0 orc
  | _ => fun _ _ _ => none
def Q70 (b : Nat) : Nat := match b with
  | 0 => 0
  | _ => 0
/-! 71: TruceWall$Truce.canDo(JII)Z -/
def B71_0 (orc : Orc) : K := o_iload 4 (o_sI orc 4 1 (o_istore 5 (o_iload 4 (o_sI orc 2 1 (o_if0 (o_aload 0 (o_lload 1 (o_iload 4 (o_sI orc 3 1 (o_iload 5 (o_iload 4 (o_sI orc 5 1 (o_vI orc 64 5 5 (o_if0 (o_iconst 1 (o_zret)) (o_iconst 0 (o_zret))))))))))) (o_aload 0 (o_lload 1 (o_iload 3 (o_iload 5 (o_vI orc 68 4 5 (o_if0 (o_iconst 1 (o_zret)) (o_iconst 0 (o_zret)))))))))))))
def P71 (orc : Orc) (b : Nat) : K := match b with
  | 0 => B71_0 orc
  | _ => fun _ _ _ => none
def Q71 (b : Nat) : Nat := match b with
  | 0 => 0
  | _ => 0
/-! 72: TruceWall$Truce.gather(JI[I)I -/
def B72_0 (orc : Orc) : K := o_iconst 0 (o_istore 5 (o_iconst 0 (o_istore 6 (o_jmp 1))))
def B72_1 (orc : Orc) : K := o_iload 6 (o_aload 0 (o_getR 5 8 (o_alen (o_ilt (o_iload 5 (o_aload 4 (o_alen (o_ilt (o_aload 0 (o_lload 1 (o_iload 3 (o_aload 0 (o_getR 5 8 (o_iload 6 (o_iald 0 (o_vI orc 71 4 5 (o_if0 (o_jmp 2) (o_aload 4 (o_iload 5 (o_aload 0 (o_getR 5 8 (o_iload 6 (o_iald 0 (o_iast 0 (fun x => x) (o_iinc 5 1 (o_jmp 2)))))))))))))))))) (o_iload 5 (o_iret)))))) (o_iload 5 (o_iret))))))
def B72_2 (orc : Orc) : K := o_iinc 6 1 (o_jmp 1)
def P72 (orc : Orc) (b : Nat) : K := match b with
  | 0 => B72_0 orc
  | 1 => B72_1 orc
  | 2 => B72_2 orc
  | _ => fun _ _ _ => none
def Q72 (b : Nat) : Nat := match b with
  | 0 => 0
  | 1 => 6
  | 2 => 55
  | _ => 0
/-! 73: TruceWall$Truce.after(JII)J -/
def B73_0 (orc : Orc) : K := o_iload 4 (o_sI orc 4 1 (o_istore 5 (o_iload 4 (o_sI orc 2 1 (o_if0 (o_lload 1 (o_iload 5 (o_sI orc 57 2 (o_iconst 1 (o_i2 (fun x y => x + y) (o_istore 6 (o_aload 0 (o_getR 5 4 (o_iload 4 (o_sI orc 3 1 (o_iald 0 (o_iconst 3 (o_ieq (o_aload 0 (o_iload 5 (o_vI orc 63 2 5 (o_istore 7 (o_lload 1 (o_iload 5 (o_iload 6 (o_sL orc 59 3 (o_iload 7 (o_lload 1 (o_iload 7 (o_sI orc 57 2 (o_iconst 1 (o_i2 (fun x y => x + y) (o_sL orc 59 3 (o_lret)))))))))))))))) (o_lload 1 (o_lstore 7 (o_iload 5 (o_istore 9 (o_jmp 1)))))))))))))))))) (o_lload 1 (o_iload 5 (o_iload 3 (o_sL orc 70 3 (o_lret))))))))))
def B73_1 (orc : Orc) : K := o_iload 9 (o_iload 5 (o_iload 4 (o_sI orc 5 1 (o_i2 (fun x y => x + y) (o_ilt (o_lload 7 (o_iload 9 (o_iload 6 (o_sL orc 59 3 (o_lstore 7 (o_iinc 9 1 (o_jmp 1))))))) (o_lload 7 (o_lret)))))))
def P73 (orc : Orc) (b : Nat) : K := match b with
  | 0 => B73_0 orc
  | 1 => B73_1 orc
  | _ => fun _ _ _ => none
def Q73 (b : Nat) : Nat := match b with
  | 0 => 0
  | 1 => 84
  | _ => 0
/-! 74: TruceWall$Truce.isClosed(J)Z -/
def B74_0 (orc : Orc) : K := o_iconst 0 (o_istore 3 (o_jmp 1))
def B74_1 (orc : Orc) : K := o_iload 3 (o_aload 0 (o_getI 5 0 (o_ilt (o_lload 1 (o_iload 3 (o_sI orc 58 2 (o_iconst (-1) (o_ieq (o_lload 1 (o_iload 3 (o_sI orc 57 2 (o_aload 0 (o_getI 5 1 (o_ilt (o_iconst 0 (o_zret)) (o_jmp 2))))))) (o_jmp 2)))))) (o_iconst 1 (o_zret)))))
def B74_2 (orc : Orc) : K := o_iinc 3 1 (o_jmp 1)
def P74 (orc : Orc) (b : Nat) : K := match b with
  | 0 => B74_0 orc
  | 1 => B74_1 orc
  | 2 => B74_2 orc
  | _ => fun _ _ _ => none
def Q74 (b : Nat) : Nat := match b with
  | 0 => 0
  | 1 => 2
  | 2 => 33
  | _ => 0
/-! 75: TruceWall$Truce.payer(JI)I -/
def B75_0 (orc : Orc) : K := o_aload 0 (o_lload 1 (o_vI orc 74 2 5 (o_if0 (o_iload 3 (o_iret)) (o_iconst 1 (o_iload 3 (o_i2 (fun x y => x - y) (o_iret)))))))
def P75 (orc : Orc) (b : Nat) : K := match b with
  | 0 => B75_0 orc
  | _ => fun _ _ _ => none
def Q75 (b : Nat) : Nat := match b with
  | 0 => 0
  | _ => 0
/-! 76: TruceWall$Truce.numberOf(J)I -/
def B76_0 (orc : Orc) : K := o_iconst 0 (o_istore 3 (o_aload 0 (o_getI 5 0 (o_iconst 1 (o_i2 (fun x y => x - y) (o_istore 4 (o_jmp 1)))))))
def B76_1 (orc : Orc) : K := o_iload 4 (o_ifn (o_iload 3 (o_iret)) (o_lload 1 (o_iload 4 (o_sI orc 58 2 (o_istore 5 (o_iload 3 (o_aload 0 (o_getI 5 1 (o_iconst 3 (o_i2 (fun x y => x + y) (o_i2 (fun x y => x * y) (o_iload 5 (o_iconst (-1) (o_ieq (o_lload 1 (o_iload 4 (o_sI orc 57 2 (o_jmp 2)))) (o_aload 0 (o_getI 5 1 (o_iconst 1 (o_i2 (fun x y => x + y) (o_iload 5 (o_i2 (fun x y => x + y) (o_jmp 2)))))))))))))))))))))
def B76_2 (orc : Orc) : K := o_i2 (fun x y => x + y) (o_istore 3 (o_iinc 4 (-1) (o_jmp 1)))
def P76 (orc : Orc) (b : Nat) : K := match b with
  | 0 => B76_0 orc
  | 1 => B76_1 orc
  | 2 => B76_2 orc
  | _ => fun _ _ _ => none
def Q76 (b : Nat) : Nat := match b with
  | 0 => 0
  | 1 => 10
  | 2 => 55
  | _ => 0
/-! 77: TruceWall$Truce.numberOfLooks(J)I -/
def B77_0 (orc : Orc) : K := o_iconst 0 (o_istore 3 (o_aload 0 (o_getI 5 0 (o_iconst 1 (o_i2 (fun x y => x - y) (o_istore 4 (o_jmp 1)))))))
def B77_1 (orc : Orc) : K := o_iload 4 (o_ifn (o_iload 3 (o_iret)) (o_lload 1 (o_iload 4 (o_sI orc 58 2 (o_iconst (-1) (o_ieq (o_iconst 0 (o_jmp 2)) (o_iconst 1 (o_jmp 2))))))))
def B77_2 (orc : Orc) : K := o_istore 5 (o_iload 3 (o_aload 0 (o_getI 5 1 (o_iconst 3 (o_i2 (fun x y => x + y) (o_i2 (fun x y => x * y) (o_iload 5 (o_if0 (o_lload 1 (o_iload 4 (o_sI orc 57 2 (o_jmp 3)))) (o_aload 0 (o_getI 5 1 (o_iconst 1 (o_i2 (fun x y => x + y) (o_jmp 3)))))))))))))
def B77_3 (orc : Orc) : K := o_i2 (fun x y => x + y) (o_istore 3 (o_iinc 4 (-1) (o_jmp 1)))
def P77 (orc : Orc) (b : Nat) : K := match b with
  | 0 => B77_0 orc
  | 1 => B77_1 orc
  | 2 => B77_2 orc
  | 3 => B77_3 orc
  | _ => fun _ _ _ => none
def Q77 (b : Nat) : Nat := match b with
  | 0 => 0
  | 1 => 10
  | 2 => 30
  | 3 => 60
  | _ => 0
/-! 78: TruceWall$Truce.wallOf(I)J -/
def B78_0 (orc : Orc) : K := o_lconst 0 (o_lstore 2 (o_iload 1 (o_istore 4 (o_iconst 0 (o_istore 5 (o_jmp 1))))))
def B78_1 (orc : Orc) : K := o_iload 5 (o_aload 0 (o_getI 5 0 (o_ilt (o_iload 4 (o_aload 0 (o_getI 5 1 (o_iconst 3 (o_i2 (fun x y => x + y) (o_i2z (fun x y => x - x / y * y) (o_istore 6 (o_iload 4 (o_aload 0 (o_getI 5 1 (o_iconst 3 (o_i2 (fun x y => x + y) (o_i2z (fun x y => x / y) (o_istore 4 (o_iload 6 (o_aload 0 (o_getI 5 1 (o_igt (o_iconst 1 (o_jmp 2)) (o_iconst 0 (o_jmp 2)))))))))))))))))))) (o_lload 2 (o_lret)))))
def B78_2 (orc : Orc) : K := o_istore 7 (o_iload 7 (o_if0 (o_lload 2 (o_iload 5 (o_iload 6 (o_sL orc 59 3 (o_jmp 3))))) (o_lload 2 (o_iload 5 (o_iload 6 (o_aload 0 (o_getI 5 1 (o_i2 (fun x y => x - y) (o_iconst 1 (o_i2 (fun x y => x - y) (o_sL orc 70 3 (o_jmp 3))))))))))))
def B78_3 (orc : Orc) : K := o_lstore 2 (o_iinc 5 1 (o_jmp 1))
def P78 (orc : Orc) (b : Nat) : K := match b with
  | 0 => B78_0 orc
  | 1 => B78_1 orc
  | 2 => B78_2 orc
  | 3 => B78_3 orc
  | _ => fun _ _ _ => none
def Q78 (b : Nat) : Nat := match b with
  | 0 => 0
  | 1 => 8
  | 2 => 53
  | 3 => 86
  | _ => 0
/-! 79: TruceWall$Truce.manyNumbers()I -/
def B79_0 (orc : Orc) : K := o_aload 0 (o_getI 5 1 (o_iconst 3 (o_i2 (fun x y => x + y) (o_aload 0 (o_getI 5 0 (o_sI orc 60 2 (o_iret)))))))
def P79 (orc : Orc) (b : Nat) : K := match b with
  | 0 => B79_0 orc
  | _ => fun _ _ _ => none
def Q79 (b : Nat) : Nat := match b with
  | 0 => 0
  | _ => 0
/-! 80: TruceWall$Ways.<init>()V -/
def B80_0 (orc : Orc) : K := o_aload 0 (o_obj (o_aload 0 (o_iconst 3125 (o_newa 0 (o_putR 6 0 (o_vret))))))
def P80 (orc : Orc) (b : Nat) : K := match b with
  | 0 => B80_0 orc
  | _ => fun _ _ _ => none
def Q80 (b : Nat) : Nat := match b with
  | 0 => 0
  | _ => 0
/-! 81: TruceWall$Ways.spread(LTruceWall$Truce;JIIZ)V -/
def B81_0 (orc : Orc) : K := o_iconst 0 (o_istore 7 (o_jmp 1))
def B81_1 (orc : Orc) : K := o_iload 7 (o_aload 0 (o_getR 6 0 (o_alen (o_ilt (o_aload 0 (o_getR 6 0 (o_iload 7 (o_iconst 0 (o_iast 0 (fun x => x) (o_iinc 7 1 (o_jmp 1))))))) (o_aload 1 (o_lload 2 (o_vI orc 76 2 5 (o_istore 7 (o_iload 7 (o_aload 0 (o_getR 6 0 (o_alen (o_ilt (o_aload 0 (o_getR 6 0 (o_iload 7 (o_iconst 1 (o_iast 0 (fun x => x) (o_iconst 1 (o_istore 8 (o_iconst 0 (o_istore 9 (o_jmp 2)))))))))) (o_vret))))))))))))))
def B81_2 (orc : Orc) : K := o_iload 9 (o_iload 5 (o_ilt (o_iload 8 (o_if0 (o_vret) (o_aload 0 (o_aload 1 (o_iload 4 (o_iload 9 (o_i2 (fun x y => x + y) (o_iconst 1 (o_i2 (fun x y => x &&& y) (o_iload 6 (o_vI orc 82 4 6 (o_istore 8 (o_iinc 9 1 (o_jmp 2)))))))))))))) (o_vret)))
def P81 (orc : Orc) (b : Nat) : K := match b with
  | 0 => B81_0 orc
  | 1 => B81_1 orc
  | 2 => B81_2 orc
  | _ => fun _ _ _ => none
def Q81 (b : Nat) : Nat := match b with
  | 0 => 0
  | 1 => 3
  | 2 => 59
  | _ => 0
/-! 82: TruceWall$Ways.spreadDay(LTruceWall$Truce;IZ)Z -/
def B82_0 (orc : Orc) : K := o_iconst 0 (o_istore 4 (o_aload 0 (o_getR 6 0 (o_alen (o_aload 1 (o_vI orc 79 1 5 (o_min (o_iconst 1 (o_i2 (fun x y => x - y) (o_istore 5 (o_jmp 1)))))))))))
def B82_1 (orc : Orc) : K := o_iload 5 (o_ifn (o_iload 4 (o_zret)) (o_aload 0 (o_getR 6 0 (o_iload 5 (o_iald 0 (o_if0 (o_jmp 2) (o_aload 0 (o_getR 6 0 (o_iload 5 (o_iald 0 (o_istore 6 (o_aload 0 (o_getR 6 0 (o_iload 5 (o_iconst 0 (o_iast 0 (fun x => x) (o_aload 0 (o_aload 1 (o_aload 1 (o_iload 5 (o_vL orc 78 2 5 (o_iload 2 (o_iload 6 (o_iload 3 (o_vV orc 83 6 6 (o_iconst 1 (o_istore 4 (o_jmp 2))))))))))))))))))))))))))))
def B82_2 (orc : Orc) : K := o_iinc 5 (-1) (o_jmp 1)
def P82 (orc : Orc) (b : Nat) : K := match b with
  | 0 => B82_0 orc
  | 1 => B82_1 orc
  | 2 => B82_2 orc
  | _ => fun _ _ _ => none
def Q82 (b : Nat) : Nat := match b with
  | 0 => 0
  | 1 => 19
  | 2 => 69
  | _ => 0
/-! 83: TruceWall$Ways.spreadWall(LTruceWall$Truce;JIIZ)V -/
def B83_0 (orc : Orc) : K := o_iconst 0 (o_istore 7 (o_jmp 1))
def B83_1 (orc : Orc) : K := o_iload 7 (o_aload 1 (o_getR 5 8 (o_alen (o_ilt (o_aload 1 (o_getR 5 8 (o_iload 7 (o_iald 0 (o_istore 8 (o_aload 1 (o_lload 2 (o_iload 4 (o_iload 8 (o_vI orc 71 4 5 (o_if0 (o_jmp 3) (o_aload 1 (o_aload 1 (o_lload 2 (o_iload 4 (o_iload 8 (o_vL orc 73 4 5 (o_vI orc 76 2 5 (o_istore 9 (o_iload 9 (o_aload 0 (o_getR 6 0 (o_alen (o_ilt (o_aload 0 (o_getR 6 0 (o_iload 9 (o_iload 6 (o_if0 (o_iconst 1 (o_jmp 2)) (o_aload 0 (o_getR 6 0 (o_iload 9 (o_iald 0 (o_i2l (o_iload 5 (o_i2l (o_l2 (fun x y => x + y) (o_lconst 1000000007 (o_l2z (fun x y => x - x / y * y) (o_l2i (o_jmp 2))))))))))))))))) (o_jmp 3))))))))))))))))))))))))) (o_vret)))))
def B83_2 (orc : Orc) : K := o_iast 0 (fun x => x) (o_jmp 3)
def B83_3 (orc : Orc) : K := o_iinc 7 1 (o_jmp 1)
def P83 (orc : Orc) (b : Nat) : K := match b with
  | 0 => B83_0 orc
  | 1 => B83_1 orc
  | 2 => B83_2 orc
  | 3 => B83_3 orc
  | _ => fun _ _ _ => none
def Q83 (b : Nat) : Nat := match b with
  | 0 => 0
  | 1 => 3
  | 2 => 91
  | 3 => 92
  | _ => 0
/-! 84: TruceWall$Ways.unlikeWalls(LTruceWall$Truce;)I -/
def B84_0 (orc : Orc) : K := o_iconst 0 (o_istore 2 (o_aload 0 (o_getR 6 0 (o_alen (o_iconst 1 (o_i2 (fun x y => x - y) (o_istore 3 (o_jmp 1))))))))
def B84_1 (orc : Orc) : K := o_iload 3 (o_ifn (o_iload 2 (o_iret)) (o_aload 0 (o_getR 6 0 (o_iload 3 (o_iald 0 (o_if0 (o_jmp 2) (o_aload 1 (o_aload 1 (o_iload 3 (o_vL orc 78 2 5 (o_vI orc 77 2 5 (o_istore 4 (o_iload 4 (o_iload 3 (o_ieq (o_iinc 2 1 (o_jmp 2)) (o_iload 4 (o_aload 0 (o_getR 6 0 (o_alen (o_ilt (o_aload 0 (o_getR 6 0 (o_iload 4 (o_iconst 1 (o_iast 0 (fun x => x) (o_jmp 2)))))) (o_jmp 2)))))))))))))))))))))
def B84_2 (orc : Orc) : K := o_iinc 3 (-1) (o_jmp 1)
def P84 (orc : Orc) (b : Nat) : K := match b with
  | 0 => B84_0 orc
  | 1 => B84_1 orc
  | 2 => B84_2 orc
  | _ => fun _ _ _ => none
def Q84 (b : Nat) : Nat := match b with
  | 0 => 0
  | 1 => 10
  | 2 => 64
  | _ => 0
/-! 85: TruceWall$Ways.waysTo(LTruceWall$Truce;J)I -/
def B85_0 (orc : Orc) : K := o_aload 1 (o_lload 2 (o_vI orc 77 2 5 (o_istore 4 (o_lconst 0 (o_lstore 5 (o_iconst 0 (o_istore 7 (o_jmp 1))))))))
def B85_1 (orc : Orc) : K := o_iload 7 (o_aload 0 (o_getR 6 0 (o_alen (o_ilt (o_aload 0 (o_getR 6 0 (o_iload 7 (o_iald 0 (o_if0 (o_jmp 2) (o_aload 1 (o_aload 1 (o_iload 7 (o_vL orc 78 2 5 (o_vI orc 77 2 5 (o_iload 4 (o_ieq (o_lload 5 (o_aload 0 (o_getR 6 0 (o_iload 7 (o_iald 0 (o_i2l (o_l2 (fun x y => x + y) (o_lstore 5 (o_jmp 2))))))))) (o_jmp 2))))))))))))) (o_lload 5 (o_lconst 1000000007 (o_l2z (fun x y => x - x / y * y) (o_l2i (o_iret)))))))))
def B85_2 (orc : Orc) : K := o_iinc 7 1 (o_jmp 1)
def P85 (orc : Orc) (b : Nat) : K := match b with
  | 0 => B85_0 orc
  | 1 => B85_1 orc
  | 2 => B85_2 orc
  | _ => fun _ _ _ => none
def Q85 (b : Nat) : Nat := match b with
  | 0 => 0
  | 1 => 13
  | 2 => 61
  | _ => 0
/-! 86: TruceWall.<init>()V -/
def B86_0 (orc : Orc) : K := o_aload 0 (o_obj (o_aload 0 (o_iconst 1000 (o_newa 2 (o_putR 7 0 (o_aload 0 (o_iconst 0 (o_putI 7 1 (o_aload 0 (o_new 2 (o_dup (o_nV orc 18 1 (o_putR 7 2 (o_aload 0 (o_new 4 (o_dup (o_nV orc 49 1 (o_putR 7 4 (o_aload 0 (o_iconst 4 (o_newa 5 (o_putR 7 5 (o_aload 0 (o_new 1 (o_dup (o_nV orc 8 1 (o_putR 7 6 (o_aload 0 (o_new 1 (o_dup (o_nV orc 8 1 (o_putR 7 7 (o_aload 0 (o_new 6 (o_dup (o_nV orc 80 1 (o_putR 7 8 (o_aload 0 (o_iconst 250 (o_newa 0 (o_putR 7 9 (o_aload 0 (o_iconst 0 (o_putI 7 10 (o_aload 0 (o_iconst 250 (o_newa 0 (o_putR 7 11 (o_aload 0 (o_aload 0 (o_getR 7 2 (o_vR orc 19 1 2 (o_putR 7 3 (o_aload 0 (o_getR 7 4 (o_vV orc 51 1 4 (o_iconst 0 (o_istore 1 (o_jmp 1)))))))))))))))))))))))))))))))))))))))))))))))))))))))))))
def B86_1 (orc : Orc) : K := o_iload 1 (o_aload 0 (o_getR 7 5 (o_alen (o_ilt (o_aload 0 (o_getR 7 5 (o_iload 1 (o_new 0 (o_dup (o_nV orc 6 1 (o_aast (o_iinc 1 1 (o_jmp 1))))))))) (o_aload 0 (o_vV orc 107 1 7 (o_vret)))))))
def P86 (orc : Orc) (b : Nat) : K := match b with
  | 0 => B86_0 orc
  | 1 => B86_1 orc
  | _ => fun _ _ _ => none
def Q86 (b : Nat) : Nat := match b with
  | 0 => 0
  | 1 => 124
  | _ => 0
/-! 87: TruceWall.feed(JJJ)I -/
def B87_0 (orc : Orc) : K := o_aload 0 (o_lload 1 (o_vV orc 106 2 7 (o_aload 0 (o_lload 3 (o_vV orc 106 2 7 (o_aload 0 (o_lload 5 (o_vV orc 106 2 7 (o_aload 0 (o_getI 7 1 (o_iret)))))))))))
def P87 (orc : Orc) (b : Nat) : K := match b with
  | 0 => B87_0 orc
  | _ => fun _ _ _ => none
def Q87 (b : Nat) : Nat := match b with
  | 0 => 0
  | _ => 0
/-! 88: TruceWall.truce()I -/
def B88_0 (orc : Orc) : K := o_aload 0 (o_getR 7 2 (o_aload 0 (o_getR 7 0 (o_aload 0 (o_getI 7 1 (o_vI orc 21 3 2 (o_istore 1 (o_aload 0 (o_iconst 0 (o_putI 7 1 (o_iload 1 (o_if0 (o_aload 0 (o_aload 0 (o_getR 7 2 (o_vR orc 19 1 2 (o_putR 7 3 (o_aload 0 (o_getR 7 4 (o_vV orc 51 1 4 (o_aload 0 (o_vV orc 107 1 7 (o_iload 1 (o_iret)))))))))))) (o_iload 1 (o_iret))))))))))))))
def P88 (orc : Orc) (b : Nat) : K := match b with
  | 0 => B88_0 orc
  | _ => fun _ _ _ => none
def Q88 (b : Nat) : Nat := match b with
  | 0 => 0
  | _ => 0
/-! 89: TruceWall.stone(II)I -/
def B89_0 (orc : Orc) : K := o_iload 1 (o_ifn (o_iconst (-1) (o_iret)) (o_iload 1 (o_aload 0 (o_getR 7 3 (o_getI 5 3 (o_ilt (o_iload 2 (o_sw [(0, o_aload 0 (o_getR 7 3 (o_getR 5 4 (o_iload 1 (o_iald 0 (o_iret)))))), (1, o_aload 0 (o_getR 7 3 (o_getR 5 5 (o_iload 1 (o_iald 0 (o_iret))))))] (o_iconst (-1) (o_iret)))) (o_iconst (-1) (o_iret))))))))
def P89 (orc : Orc) (b : Nat) : K := match b with
  | 0 => B89_0 orc
  | _ => fun _ _ _ => none
def Q89 (b : Nat) : Nat := match b with
  | 0 => 0
  | _ => 0
/-! 90: TruceWall.set(III)I -/
def B90_0 (orc : Orc) : K := o_aload 0 (o_iload 1 (o_iload 2 (o_iload 3 (o_vI orc 92 4 7 (o_istore 4 (o_iload 4 (o_if0 (o_aload 0 (o_getR 7 4 (o_aload 0 (o_getR 7 3 (o_iload 1 (o_iload 2 (o_iload 3 (o_sI orc 0 3 (o_vV orc 54 3 4 (o_aload 0 (o_vV orc 107 1 7 (o_iload 4 (o_iret))))))))))))) (o_iload 4 (o_iret)))))))))
def P90 (orc : Orc) (b : Nat) : K := match b with
  | 0 => B90_0 orc
  | _ => fun _ _ _ => none
def Q90 (b : Nat) : Nat := match b with
  | 0 => 0
  | _ => 0
/-! 91: TruceWall.leave(I)I -/
def B91_0 (orc : Orc) : K := o_aload 0 (o_iload 1 (o_vI orc 109 2 7 (o_istore 2 (o_iload 2 (o_if0 (o_aload 0 (o_getR 7 4 (o_aload 0 (o_getR 7 3 (o_iload 1 (o_sI orc 1 1 (o_vV orc 54 3 4 (o_aload 0 (o_vV orc 107 1 7 (o_iload 2 (o_iret))))))))))) (o_iload 2 (o_iret)))))))
def P91 (orc : Orc) (b : Nat) : K := match b with
  | 0 => B91_0 orc
  | _ => fun _ _ _ => none
def Q91 (b : Nat) : Nat := match b with
  | 0 => 0
  | _ => 0
/-! 92: TruceWall.fits(III)I -/
def B92_0 (orc : Orc) : K := o_aload 0 (o_getR 7 3 (o_iload 1 (o_iload 2 (o_iload 3 (o_vI orc 62 4 5 (o_if0 (o_iconst 1 (o_iret)) (o_aload 0 (o_vI orc 108 1 7 (o_if0 (o_aload 0 (o_getR 7 3 (o_aload 0 (o_getR 7 4 (o_getL 4 2 (o_iload 1 (o_iload 2 (o_iload 3 (o_vI orc 64 5 5 (o_iret)))))))))) (o_iconst 2 (o_iret)))))))))))
def P92 (orc : Orc) (b : Nat) : K := match b with
  | 0 => B92_0 orc
  | _ => fun _ _ _ => none
def Q92 (b : Nat) : Nat := match b with
  | 0 => 0
  | _ => 0
/-! 93: TruceWall.undo()Z -/
def B93_0 (orc : Orc) : K := o_aload 0 (o_getR 7 4 (o_getI 4 1 (o_if0 (o_iconst 0 (o_zret)) (o_aload 0 (o_getR 7 4 (o_aload 0 (o_getR 7 3 (o_aload 0 (o_getR 7 4 (o_getI 4 1 (o_iconst 1 (o_i2 (fun x y => x - y) (o_vV orc 53 3 4 (o_aload 0 (o_vV orc 107 1 7 (o_iconst 1 (o_zret)))))))))))))))))
def P93 (orc : Orc) (b : Nat) : K := match b with
  | 0 => B93_0 orc
  | _ => fun _ _ _ => none
def Q93 (b : Nat) : Nat := match b with
  | 0 => 0
  | _ => 0
/-! 94: TruceWall.column(II)I -/
def B94_0 (orc : Orc) : K := o_iload 1 (o_ifn (o_iconst (-1) (o_iret)) (o_iload 1 (o_aload 0 (o_getR 7 3 (o_getI 5 0 (o_ilt (o_iload 2 (o_sw [(0, o_aload 0 (o_getR 7 4 (o_getL 4 2 (o_iload 1 (o_sI orc 57 2 (o_iret)))))), (1, o_aload 0 (o_getR 7 4 (o_getL 4 2 (o_iload 1 (o_sI orc 58 2 (o_iret)))))), (2, o_aload 0 (o_getR 7 4 (o_getR 4 5 (o_iload 1 (o_iald 0 (o_iret)))))), (3, o_aload 0 (o_getR 7 4 (o_getR 4 6 (o_iload 1 (o_iald 0 (o_iret))))))] (o_iconst (-1) (o_iret)))) (o_iconst (-1) (o_iret))))))))
def P94 (orc : Orc) (b : Nat) : K := match b with
  | 0 => B94_0 orc
  | _ => fun _ _ _ => none
def Q94 (b : Nat) : Nat := match b with
  | 0 => 0
  | _ => 0
/-! 95: TruceWall.act(II)I -/
def B95_0 (orc : Orc) : K := o_iload 1 (o_ifn (o_iconst (-1) (o_iret)) (o_iload 1 (o_aload 0 (o_getI 7 10 (o_ilt (o_aload 0 (o_getR 7 9 (o_iload 1 (o_iald 0 (o_istore 3 (o_iload 2 (o_sw [(0, o_iload 3 (o_sI orc 2 1 (o_if0 (o_iload 3 (o_sI orc 3 1 (o_iret))) (o_iconst (-2) (o_iret))))), (1, o_iload 3 (o_sI orc 4 1 (o_iret))), (2, o_iload 3 (o_sI orc 2 1 (o_if0 (o_iload 3 (o_sI orc 5 1 (o_iret))) (o_iconst 0 (o_iret)))))] (o_iconst (-1) (o_iret))))))))) (o_iconst (-1) (o_iret)))))))
def P95 (orc : Orc) (b : Nat) : K := match b with
  | 0 => B95_0 orc
  | _ => fun _ _ _ => none
def Q95 (b : Nat) : Nat := match b with
  | 0 => 0
  | _ => 0
/-! 96: TruceWall.pays()I -/
def B96_0 (orc : Orc) : K := o_aload 0 (o_getR 7 3 (o_getI 5 7 (o_if0 (o_iconst (-1) (o_iret)) (o_aload 0 (o_vI orc 110 1 7 (o_sI orc 9 1 (o_iret)))))))
def P96 (orc : Orc) (b : Nat) : K := match b with
  | 0 => B96_0 orc
  | _ => fun _ _ _ => none
def Q96 (b : Nat) : Nat := match b with
  | 0 => 0
  | _ => 0
/-! 97: TruceWall.days()I -/
def B97_0 (orc : Orc) : K := o_aload 0 (o_getR 7 3 (o_getI 5 7 (o_if0 (o_iconst (-1) (o_iret)) (o_aload 0 (o_vI orc 110 1 7 (o_sI orc 10 1 (o_iret)))))))
def P97 (orc : Orc) (b : Nat) : K := match b with
  | 0 => B97_0 orc
  | _ => fun _ _ _ => none
def Q97 (b : Nat) : Nat := match b with
  | 0 => 0
  | _ => 0
/-! 98: TruceWall.best()I -/
def B98_0 (orc : Orc) : K := o_aload 0 (o_getR 7 3 (o_getI 5 7 (o_if0 (o_iconst (-1) (o_iret)) (o_iconst (-1) (o_istore 1 (o_iconst (-1) (o_istore 2 (o_iconst 0 (o_istore 3 (o_jmp 1))))))))))
def B98_1 (orc : Orc) : K := o_iload 3 (o_aload 0 (o_getI 7 10 (o_ilt (o_aload 0 (o_aload 0 (o_getR 7 9 (o_iload 3 (o_iald 0 (o_vI orc 111 2 7 (o_aload 0 (o_getR 7 4 (o_vI orc 50 1 4 (o_sI orc 12 2 (o_istore 4 (o_iload 4 (o_iload 2 (o_igt (o_iload 4 (o_istore 2 (o_iload 3 (o_istore 1 (o_jmp 2))))) (o_jmp 2))))))))))))))) (o_iload 1 (o_iret)))))
def B98_2 (orc : Orc) : K := o_iinc 3 1 (o_jmp 1)
def P98 (orc : Orc) (b : Nat) : K := match b with
  | 0 => B98_0 orc
  | 1 => B98_1 orc
  | 2 => B98_2 orc
  | _ => fun _ _ _ => none
def Q98 (b : Nat) : Nat := match b with
  | 0 => 0
  | 1 => 18
  | 2 => 59
  | _ => 0
/-! 99: TruceWall.holds(I)I -/
def B99_0 (orc : Orc) : K := o_iload 1 (o_ifn (o_iconst (-1) (o_iret)) (o_iload 1 (o_aload 0 (o_getI 7 10 (o_ilt (o_aload 0 (o_getR 7 3 (o_getI 5 7 (o_if0 (o_iconst (-1) (o_iret)) (o_aload 0 (o_aload 0 (o_getR 7 9 (o_iload 1 (o_iald 0 (o_vI orc 111 2 7 (o_sI orc 10 1 (o_iret)))))))))))) (o_iconst (-1) (o_iret)))))))
def P99 (orc : Orc) (b : Nat) : K := match b with
  | 0 => B99_0 orc
  | _ => fun _ _ _ => none
def Q99 (b : Nat) : Nat := match b with
  | 0 => 0
  | _ => 0
/-! 100: TruceWall.mason(II)I -/
def B100_0 (orc : Orc) : K := o_iload 1 (o_ifn (o_iconst (-1) (o_iret)) (o_iload 1 (o_iconst 1 (o_igt (o_iconst (-1) (o_iret)) (o_iload 2 (o_ifn (o_iconst (-1) (o_iret)) (o_iload 2 (o_iconst 2 (o_igt (o_iconst (-1) (o_iret)) (o_aload 0 (o_getR 7 3 (o_getI 5 7 (o_if0 (o_iconst (-1) (o_iret)) (o_aload 0 (o_getR 7 7 (o_aload 0 (o_getR 7 3 (o_iload 1 (o_iload 2 (o_vV orc 13 4 1 (o_aload 0 (o_getR 7 7 (o_aload 0 (o_getR 7 4 (o_getL 4 2 (o_aload 0 (o_getR 7 4 (o_vI orc 50 1 4 (o_iconst 0 (o_vI orc 14 4 1 (o_sI orc 9 1 (o_iret))))))))))))))))))))))))))))))))
def P100 (orc : Orc) (b : Nat) : K := match b with
  | 0 => B100_0 orc
  | _ => fun _ _ _ => none
def Q100 (b : Nat) : Nat := match b with
  | 0 => 0
  | _ => 0
/-! 101: TruceWall.reached(I)I -/
def B101_0 (orc : Orc) : K := o_iload 1 (o_ifn (o_iconst (-1) (o_iret)) (o_iload 1 (o_iconst 30 (o_igt (o_iconst (-1) (o_iret)) (o_aload 0 (o_getR 7 3 (o_getI 5 7 (o_if0 (o_iconst (-1) (o_iret)) (o_aload 0 (o_getR 7 8 (o_aload 0 (o_getR 7 3 (o_aload 0 (o_getR 7 4 (o_getL 4 2 (o_aload 0 (o_getR 7 4 (o_vI orc 50 1 4 (o_iload 1 (o_iconst 0 (o_vV orc 81 6 6 (o_aload 0 (o_getR 7 8 (o_aload 0 (o_getR 7 3 (o_vI orc 84 2 6 (o_iret)))))))))))))))))))))))))))
def P101 (orc : Orc) (b : Nat) : K := match b with
  | 0 => B101_0 orc
  | _ => fun _ _ _ => none
def Q101 (b : Nat) : Nat := match b with
  | 0 => 0
  | _ => 0
/-! 102: TruceWall.histories(I)I -/
def B102_0 (orc : Orc) : K := o_iload 1 (o_ifn (o_iconst (-1) (o_iret)) (o_iload 1 (o_iconst 30 (o_igt (o_iconst (-1) (o_iret)) (o_aload 0 (o_getR 7 3 (o_getI 5 7 (o_if0 (o_iconst (-1) (o_iret)) (o_aload 0 (o_getR 7 8 (o_aload 0 (o_getR 7 3 (o_lconst 0 (o_iconst 0 (o_iload 1 (o_iconst 1 (o_vV orc 81 6 6 (o_aload 0 (o_getR 7 8 (o_aload 0 (o_getR 7 3 (o_aload 0 (o_getR 7 4 (o_getL 4 2 (o_vI orc 85 3 6 (o_iret))))))))))))))))))))))))))
def P102 (orc : Orc) (b : Nat) : K := match b with
  | 0 => B102_0 orc
  | _ => fun _ _ _ => none
def Q102 (b : Nat) : Nat := match b with
  | 0 => 0
  | _ => 0
/-! 103: TruceWall.lots(III)I -/
def B103_0 (orc : Orc) : K := o_iload 1 (o_ifn (o_iconst (-1) (o_iret)) (o_iload 1 (o_iconst 9999 (o_igt (o_iconst (-1) (o_iret)) (o_iload 2 (o_iconst 1 (o_ilt (o_iconst (-1) (o_iret)) (o_iload 2 (o_iconst 100 (o_igt (o_iconst (-1) (o_iret)) (o_iload 3 (o_ifn (o_iconst (-1) (o_iret)) (o_iload 3 (o_iconst 1 (o_igt (o_iconst (-1) (o_iret)) (o_iload 1 (o_i2l (o_lstore 4 (o_iconst 0 (o_istore 6 (o_iconst 0 (o_istore 7 (o_iconst 0 (o_istore 8 (o_jmp 1)))))))))))))))))))))))))
def B103_1 (orc : Orc) : K := o_iload 8 (o_iload 2 (o_ilt (o_aload 0 (o_getR 7 4 (o_getL 4 2 (o_lstore 9 (o_aload 0 (o_getR 7 4 (o_vI orc 50 1 4 (o_istore 11 (o_aload 0 (o_getR 7 3 (o_lload 9 (o_iload 11 (o_aload 0 (o_getR 7 11 (o_vI orc 72 4 5 (o_istore 12 (o_iconst 0 (o_istore 13 (o_jmp 2))))))))))))))))))) (o_iload 3 (o_if0 (o_iload 6 (o_iret)) (o_iload 7 (o_iret))))))
def B103_2 (orc : Orc) : K := o_iload 13 (o_iconst 60 (o_ilt (o_iload 12 (o_ifp (o_lload 4 (o_lconst 1103515245 (o_l2 (fun x y => x * y) (o_lconst 12345 (o_l2 (fun x y => x + y) (o_lconst 2147483648 (o_l2z (fun x y => x - x / y * y) (o_lstore 4 (o_aload 0 (o_getR 7 3 (o_lload 9 (o_iload 11 (o_aload 0 (o_getR 7 11 (o_lload 4 (o_lconst 65536 (o_l2z (fun x y => x / y) (o_iload 12 (o_i2l (o_l2z (fun x y => x - x / y * y) (o_l2i (o_iald 0 (o_vL orc 73 4 5 (o_lstore 9 (o_iconst 1 (o_iload 11 (o_i2 (fun x y => x - y) (o_istore 11 (o_iinc 7 1 (o_aload 0 (o_getR 7 3 (o_lload 9 (o_iload 11 (o_aload 0 (o_getR 7 11 (o_vI orc 72 4 5 (o_istore 12 (o_iinc 13 1 (o_jmp 2))))))))))))))))))))))))))))))))))))))) (o_jmp 3))) (o_jmp 3)))
def B103_3 (orc : Orc) : K := o_iload 6 (o_aload 0 (o_getR 7 3 (o_lload 9 (o_iload 11 (o_vI orc 75 3 5 (o_if0 (o_iconst 1 (o_jmp 4)) (o_iconst 0 (o_jmp 4))))))))
def B103_4 (orc : Orc) : K := o_i2 (fun x y => x + y) (o_istore 6 (o_iinc 8 1 (o_jmp 1)))
def P103 (orc : Orc) (b : Nat) : K := match b with
  | 0 => B103_0 orc
  | 1 => B103_1 orc
  | 2 => B103_2 orc
  | 3 => B103_3 orc
  | 4 => B103_4 orc
  | _ => fun _ _ _ => none
def Q103 (b : Nat) : Nat := match b with
  | 0 => 0
  | 1 => 46
  | 2 => 90
  | 3 => 179
  | 4 => 200
  | _ => 0
/-! 104: TruceWall.mark(IZ)Z -/
def B104_0 (orc : Orc) : K := o_iload 1 (o_ifn (o_iconst 0 (o_zret)) (o_iload 1 (o_aload 0 (o_getR 7 5 (o_alen (o_ilt (o_aload 0 (o_getR 7 5 (o_iload 1 (o_aald (o_astore 3 (o_iload 2 (o_if0 (o_aload 3 (o_aload 0 (o_getR 7 3 (o_aload 0 (o_getR 7 4 (o_vV orc 7 3 0 (o_iconst 1 (o_zret)))))))) (o_aload 3 (o_getR 0 0 (o_ifnull (o_iconst 0 (o_zret)) (o_aload 0 (o_aload 3 (o_getR 0 0 (o_putR 7 3 (o_aload 0 (o_getR 7 4 (o_aload 3 (o_getR 0 1 (o_vV orc 52 2 4 (o_aload 0 (o_getR 7 4 (o_aload 0 (o_getR 7 3 (o_aload 3 (o_getI 0 2 (o_vV orc 53 3 4 (o_aload 0 (o_vV orc 107 1 7 (o_iconst 1 (o_zret)))))))))))))))))))))))))))))) (o_iconst 0 (o_zret))))))))
def P104 (orc : Orc) (b : Nat) : K := match b with
  | 0 => B104_0 orc
  | _ => fun _ _ _ => none
def Q104 (b : Nat) : Nat := match b with
  | 0 => 0
  | _ => 0
/-! 105: TruceWall.count(I)I -/
def B105_0 (orc : Orc) : K := o_iload 1 (o_sw [(0, o_aload 0 (o_getR 7 3 (o_getI 5 0 (o_iret)))), (1, o_aload 0 (o_getR 7 3 (o_getI 5 1 (o_iret)))), (2, o_aload 0 (o_getR 7 3 (o_getI 5 3 (o_iret)))), (3, o_aload 0 (o_getR 7 3 (o_getI 5 7 (o_if0 (o_iconst 0 (o_iret)) (o_iconst 1 (o_iret)))))), (4, o_aload 0 (o_getR 7 4 (o_getI 4 1 (o_iret)))), (5, o_aload 0 (o_getI 7 1 (o_iret)))] (o_iconst (-1) (o_iret)))
def P105 (orc : Orc) (b : Nat) : K := match b with
  | 0 => B105_0 orc
  | _ => fun _ _ _ => none
def Q105 (b : Nat) : Nat := match b with
  | 0 => 0
  | _ => 0
/-! 106: TruceWall.takeSigns(J)V -/
def B106_0 (orc : Orc) : K := o_iconst 56 (o_istore 3 (o_jmp 1))
def B106_1 (orc : Orc) : K := o_iload 3 (o_ifn (o_vret) (o_lload 1 (o_iload 3 (o_lsh (fun x y => (x.toUInt64 >>> (y.toInt64.toUInt64 &&& Int64.toUInt64 63)).toInt64) (o_l2i (o_iconst 255 (o_i2 (fun x y => x &&& y) (o_istore 4 (o_iload 4 (o_iconst 10 (o_ieq (o_jmp 2) (o_iload 4 (o_iconst 32 (o_ilt (o_jmp 3) (o_iload 4 (o_iconst 126 (o_igt (o_jmp 3) (o_jmp 2))))))))))))))))))
def B106_2 (orc : Orc) : K := o_iconst 1 (o_jmp 4)
def B106_3 (orc : Orc) : K := o_iconst 0 (o_jmp 4)
def B106_4 (orc : Orc) : K := o_istore 5 (o_iload 5 (o_if0 (o_jmp 5) (o_aload 0 (o_getI 7 1 (o_aload 0 (o_getR 7 0 (o_alen (o_ilt (o_aload 0 (o_getR 7 0 (o_aload 0 (o_getI 7 1 (o_iload 4 (o_i1 (fun x => (x.toUInt32 % 65536).toInt32) (o_iast 2 (fun x => vp_nar .char x) (o_aload 0 (o_dup (o_getI 7 1 (o_iconst 1 (o_i2 (fun x y => x + y) (o_putI 7 1 (o_jmp 5)))))))))))))) (o_jmp 5)))))))))
def B106_5 (orc : Orc) : K := o_iinc 3 (-8) (o_jmp 1)
def P106 (orc : Orc) (b : Nat) : K := match b with
  | 0 => B106_0 orc
  | 1 => B106_1 orc
  | 2 => B106_2 orc
  | 3 => B106_3 orc
  | 4 => B106_4 orc
  | 5 => B106_5 orc
  | _ => fun _ _ _ => none
def Q106 (b : Nat) : Nat := match b with
  | 0 => 0
  | 1 => 3
  | 2 => 38
  | 3 => 42
  | 4 => 43
  | 5 => 84
  | _ => 0
/-! 107: TruceWall.lookRound()V -/
def B107_0 (orc : Orc) : K := o_aload 0 (o_aload 0 (o_getR 7 3 (o_aload 0 (o_getR 7 4 (o_getL 4 2 (o_aload 0 (o_getR 7 4 (o_vI orc 50 1 4 (o_aload 0 (o_getR 7 9 (o_vI orc 72 4 5 (o_putI 7 10 (o_vret)))))))))))))
def P107 (orc : Orc) (b : Nat) : K := match b with
  | 0 => B107_0 orc
  | _ => fun _ _ _ => none
def Q107 (b : Nat) : Nat := match b with
  | 0 => 0
  | _ => 0
/-! 108: TruceWall.isOver()Z -/
def B108_0 (orc : Orc) : K := o_aload 0 (o_getI 7 10 (o_if0 (o_iconst 1 (o_zret)) (o_iconst 0 (o_zret))))
def P108 (orc : Orc) (b : Nat) : K := match b with
  | 0 => B108_0 orc
  | _ => fun _ _ _ => none
def Q108 (b : Nat) : Nat := match b with
  | 0 => 0
  | _ => 0
/-! 109: TruceWall.gateRefused(I)I -/
def B109_0 (orc : Orc) : K := o_iload 1 (o_ifn (o_iconst 1 (o_iret)) (o_iload 1 (o_aload 0 (o_getR 7 3 (o_getI 5 0 (o_ilt (o_aload 0 (o_vI orc 108 1 7 (o_if0 (o_aload 0 (o_getR 7 3 (o_aload 0 (o_getR 7 4 (o_getL 4 2 (o_aload 0 (o_getR 7 4 (o_vI orc 50 1 4 (o_iload 1 (o_vI orc 68 4 5 (o_iret))))))))))) (o_iconst 2 (o_iret))))) (o_iconst 1 (o_iret))))))))
def P109 (orc : Orc) (b : Nat) : K := match b with
  | 0 => B109_0 orc
  | _ => fun _ _ _ => none
def Q109 (b : Nat) : Nat := match b with
  | 0 => 0
  | _ => 0
/-! 110: TruceWall.outcomeNow()I -/
def B110_0 (orc : Orc) : K := o_aload 0 (o_getR 7 6 (o_aload 0 (o_getR 7 3 (o_iconst (-1) (o_iconst (-1) (o_vV orc 13 4 1 (o_aload 0 (o_getR 7 6 (o_aload 0 (o_getR 7 4 (o_getL 4 2 (o_aload 0 (o_getR 7 4 (o_vI orc 50 1 4 (o_iconst 0 (o_vI orc 14 4 1 (o_iret)))))))))))))))))
def P110 (orc : Orc) (b : Nat) : K := match b with
  | 0 => B110_0 orc
  | _ => fun _ _ _ => none
def Q110 (b : Nat) : Nat := match b with
  | 0 => 0
  | _ => 0
/-! 111: TruceWall.outcomeBehind(I)I -/
def B111_0 (orc : Orc) : K := o_aload 0 (o_getR 7 6 (o_aload 0 (o_getR 7 3 (o_iconst (-1) (o_iconst (-1) (o_vV orc 13 4 1 (o_aload 0 (o_getR 7 3 (o_aload 0 (o_getR 7 4 (o_getL 4 2 (o_aload 0 (o_getR 7 4 (o_vI orc 50 1 4 (o_iload 1 (o_vL orc 73 4 5 (o_lstore 2 (o_aload 0 (o_getR 7 6 (o_lload 2 (o_iconst 1 (o_aload 0 (o_getR 7 4 (o_vI orc 50 1 4 (o_i2 (fun x y => x - y) (o_iconst 1 (o_vI orc 14 4 1 (o_sI orc 11 1 (o_iret)))))))))))))))))))))))))))))
def P111 (orc : Orc) (b : Nat) : K := match b with
  | 0 => B111_0 orc
  | _ => fun _ _ _ => none
def Q111 (b : Nat) : Nat := match b with
  | 0 => 0
  | _ => 0
/-! 112: TruceWallModel.<init>()V -/
def B112_0 (orc : Orc) : K := o_aload 0 (o_obj (o_aload 0 (o_iconst 1000 (o_newa 0 (o_putR 8 2 (o_aload 0 (o_iconst 6 (o_newa 0 (o_putR 8 10 (o_aload 0 (o_iconst 6 (o_newa 0 (o_putR 8 11 (o_aload 0 (o_iconst 6 (o_newa 0 (o_putR 8 12 (o_aload 0 (o_iconst 6 (o_newa 0 (o_putR 8 13 (o_aload 0 (o_iconst 36 (o_newa 0 (o_putR 8 14 (o_aload 0 (o_iconst 36 (o_newa 0 (o_putR 8 15 (o_aload 0 (o_iconst 6 (o_newa 1 (o_putR 8 16 (o_aload 0 (o_iconst 6 (o_newa 0 (o_putR 8 17 (o_aload 0 (o_iconst 6 (o_newa 0 (o_putR 8 18 (o_aload 0 (o_iconst 6000 (o_newa 0 (o_putR 8 19 (o_aload 0 (o_iconst 7 (o_newa 0 (o_putR 8 23 (o_aload 0 (o_iconst 7 (o_newa 4 (o_putR 8 24 (o_aload 0 (o_iconst 7 (o_newa 0 (o_putR 8 25 (o_aload 0 (o_iconst 7 (o_newa 0 (o_putR 8 26 (o_aload 0 (o_iconst 7 (o_newa 0 (o_putR 8 27 (o_aload 0 (o_iconst 7 (o_newa 0 (o_putR 8 28 (o_aload 0 (o_iconst 7 (o_newa 0 (o_putR 8 29 (o_aload 0 (o_iconst 7 (o_newa 0 (o_putR 8 30 (o_aload 0 (o_iconst 7 (o_newa 0 (o_putR 8 31 (o_aload 0 (o_iconst 7 (o_newa 0 (o_putR 8 32 (o_aload 0 (o_iconst 7 (o_newa 0 (o_putR 8 33 (o_aload 0 (o_iconst 20 (o_newa 0 (o_putR 8 34 (o_aload 0 (o_iconst 2560 (o_newa 0 (o_putR 8 36 (o_aload 0 (o_iconst 3840 (o_newa 0 (o_putR 8 37 (o_aload 0 (o_iconst 65536 (o_newa 3 (o_putR 8 42 (o_aload 0 (o_iconst 65536 (o_newa 3 (o_putR 8 43 (o_aload 0 (o_iconst 65536 (o_newa 3 (o_putR 8 45 (o_aload 0 (o_iconst 65536 (o_newa 0 (o_putR 8 46 (o_aload 0 (o_iconst 65536 (o_newa 0 (o_putR 8 47 (o_aload 0 (o_iconst 4 (o_newa 4 (o_putR 8 49 (o_aload 0 (o_iconst 15616 (o_newa 0 (o_putR 8 50 (o_aload 0 (o_iconst 4 (o_newa 0 (o_putR 8 51 (o_aload 0 (o_getR 8 10 (o_iconst 0 (o_iconst 2 (o_iast 0 (fun x => x) (o_aload 0 (o_getR 8 11 (o_iconst 0 (o_iconst 1 (o_iast 0 (fun x => x) (o_aload 0 (o_vV orc 139 1 8 (o_vret))))))))))))))))))))))))))))))))))))))))))))))))))))))))))))))))))))))))))))))))))))))))))))))))))))))))))))))))))))))))))))))))))))))))))))))))))
def P112 (orc : Orc) (b : Nat) : K := match b with
  | 0 => B112_0 orc
  | _ => fun _ _ _ => none
def Q112 (b : Nat) : Nat := match b with
  | 0 => 0
  | _ => 0
/-! 113: TruceWallModel.thrown()I -/
def B113_0 (orc : Orc) : K := o_aload 0 (o_getI 8 0 (o_iret))
def P113 (orc : Orc) (b : Nat) : K := match b with
  | 0 => B113_0 orc
  | _ => fun _ _ _ => none
def Q113 (b : Nat) : Nat := match b with
  | 0 => 0
  | _ => 0
/-! 114: TruceWallModel.within(III)Z -/
def B114_0 (orc : Orc) : K := o_iload 0 (o_iload 1 (o_ilt (o_iconst 0 (o_zret)) (o_iload 0 (o_iload 2 (o_igt (o_iconst 0 (o_zret)) (o_iconst 1 (o_zret)))))))
def P114 (orc : Orc) (b : Nat) : K := match b with
  | 0 => B114_0 orc
  | _ => fun _ _ _ => none
def Q114 (b : Nat) : Nat := match b with
  | 0 => 0
  | _ => 0
/-! 115: TruceWallModel.feed(JJJ)I -/
def B115_0 (orc : Orc) : K := o_aload 0 (o_iconst 0 (o_putI 8 0 (o_iconst 0 (o_istore 7 (o_jmp 1)))))
def B115_1 (orc : Orc) : K := o_iload 7 (o_iconst 24 (o_ilt (o_iload 7 (o_iconst 8 (o_ilt (o_lload 1 (o_jmp 2)) (o_iload 7 (o_iconst 16 (o_ilt (o_lload 3 (o_jmp 2)) (o_lload 5 (o_jmp 2)))))))) (o_aload 0 (o_getI 8 1 (o_iret)))))
def B115_2 (orc : Orc) : K := o_lstore 8 (o_lload 8 (o_iconst 56 (o_iconst 8 (o_iload 7 (o_iconst 7 (o_i2 (fun x y => x &&& y) (o_i2 (fun x y => x * y) (o_i2 (fun x y => x - y) (o_lsh (fun x y => (x.toUInt64 >>> (y.toInt64.toUInt64 &&& Int64.toUInt64 63)).toInt64) (o_lconst 255 (o_l2 (fun x y => x &&& y) (o_l2i (o_istore 10 (o_aload 0 (o_getI 8 1 (o_iconst 1000 (o_ilt (o_iload 10 (o_iconst 10 (o_ieq (o_jmp 3) (o_iload 10 (o_iconst 32 (o_ilt (o_jmp 4) (o_iload 10 (o_iconst 126 (o_igt (o_jmp 4) (o_jmp 3)))))))))) (o_jmp 4))))))))))))))))))
def B115_3 (orc : Orc) : K := o_aload 0 (o_getR 8 2 (o_aload 0 (o_getI 8 1 (o_iload 10 (o_iast 0 (fun x => x) (o_aload 0 (o_dup (o_getI 8 1 (o_iconst 1 (o_i2 (fun x y => x + y) (o_putI 8 1 (o_jmp 4))))))))))))
def B115_4 (orc : Orc) : K := o_iinc 7 1 (o_jmp 1)
def P115 (orc : Orc) (b : Nat) : K := match b with
  | 0 => B115_0 orc
  | 1 => B115_1 orc
  | 2 => B115_2 orc
  | 3 => B115_3 orc
  | 4 => B115_4 orc
  | _ => fun _ _ _ => none
def Q115 (b : Nat) : Nat := match b with
  | 0 => 0
  | 1 => 8
  | 2 => 39
  | 3 => 93
  | 4 => 114
  | _ => 0
/-! 116: TruceWallModel.signAt(I)I -/
def B116_0 (orc : Orc) : K := o_iload 1 (o_aload 0 (o_getI 8 3 (o_ilt (o_aload 0 (o_getR 8 2 (o_iload 1 (o_iald 0 (o_iret))))) (o_iconst 0 (o_iret)))))
def P116 (orc : Orc) (b : Nat) : K := match b with
  | 0 => B116_0 orc
  | _ => fun _ _ _ => none
def Q116 (b : Nat) : Nat := match b with
  | 0 => 0
  | _ => 0
/-! 117: TruceWallModel.nextToken()V -/
def B117_0 (orc : Orc) : K := o_aload 0 (o_getI 8 4 (o_aload 0 (o_getI 8 3 (o_ilt (o_aload 0 (o_getR 8 2 (o_aload 0 (o_getI 8 4 (o_iald 0 (o_iconst 32 (o_ieq (o_jmp 1) (o_aload 0 (o_getR 8 2 (o_aload 0 (o_getI 8 4 (o_iald 0 (o_iconst 10 (o_ieq (o_jmp 1) (o_jmp 2))))))))))))))) (o_jmp 2)))))
def B117_1 (orc : Orc) : K := o_aload 0 (o_dup (o_getI 8 4 (o_iconst 1 (o_i2 (fun x y => x + y) (o_putI 8 4 (o_jmp 0))))))
def B117_2 (orc : Orc) : K := o_aload 0 (o_aload 0 (o_getI 8 4 (o_putI 8 5 (o_aload 0 (o_lconst 0 (o_putL 8 7 (o_aload 0 (o_iconst 0 (o_putI 8 8 (o_aload 0 (o_getI 8 4 (o_aload 0 (o_getI 8 3 (o_ieq (o_aload 0 (o_iconst 0 (o_putI 8 6 (o_vret)))) (o_aload 0 (o_getR 8 2 (o_aload 0 (o_getI 8 4 (o_iald 0 (o_istore 1 (o_iload 1 (o_iconst 97 (o_ilt (o_jmp 7) (o_iload 1 (o_iconst 122 (o_igt (o_jmp 7) (o_jmp 3)))))))))))))))))))))))))))
def B117_3 (orc : Orc) : K := o_aload 0 (o_aload 0 (o_getI 8 4 (o_vI orc 116 2 8 (o_iconst 97 (o_ilt (o_jmp 5) (o_aload 0 (o_aload 0 (o_getI 8 4 (o_vI orc 116 2 8 (o_iconst 122 (o_igt (o_jmp 5) (o_aload 0 (o_getI 8 4 (o_aload 0 (o_getI 8 5 (o_i2 (fun x y => x - y) (o_iconst 8 (o_ilt (o_aload 0 (o_aload 0 (o_getL 8 7 (o_lconst 27 (o_l2 (fun x y => x * y) (o_aload 0 (o_aload 0 (o_getI 8 4 (o_vI orc 116 2 8 (o_i2l (o_l2 (fun x y => x + y) (o_lconst 96 (o_l2 (fun x y => x - y) (o_putL 8 7 (o_jmp 4))))))))))))))) (o_jmp 4)))))))))))))))))))
def B117_4 (orc : Orc) : K := o_aload 0 (o_dup (o_getI 8 4 (o_iconst 1 (o_i2 (fun x y => x + y) (o_putI 8 4 (o_jmp 3))))))
def B117_5 (orc : Orc) : K := o_aload 0 (o_aload 0 (o_getI 8 4 (o_aload 0 (o_getI 8 5 (o_i2 (fun x y => x - y) (o_iconst 8 (o_igt (o_iconst 4 (o_jmp 6)) (o_iconst 1 (o_jmp 6)))))))))
def B117_6 (orc : Orc) : K := o_putI 8 6 (o_vret)
def B117_7 (orc : Orc) : K := o_iload 1 (o_iconst 48 (o_ilt (o_jmp 12) (o_iload 1 (o_iconst 57 (o_igt (o_jmp 12) (o_jmp 8))))))
def B117_8 (orc : Orc) : K := o_aload 0 (o_aload 0 (o_getI 8 4 (o_vI orc 116 2 8 (o_iconst 48 (o_ilt (o_jmp 10) (o_aload 0 (o_aload 0 (o_getI 8 4 (o_vI orc 116 2 8 (o_iconst 57 (o_igt (o_jmp 10) (o_aload 0 (o_getI 8 4 (o_aload 0 (o_getI 8 5 (o_i2 (fun x y => x - y) (o_iconst 4 (o_ilt (o_aload 0 (o_aload 0 (o_getI 8 8 (o_iconst 10 (o_i2 (fun x y => x * y) (o_aload 0 (o_aload 0 (o_getI 8 4 (o_vI orc 116 2 8 (o_i2 (fun x y => x + y) (o_iconst 48 (o_i2 (fun x y => x - y) (o_putI 8 8 (o_jmp 9)))))))))))))) (o_jmp 9)))))))))))))))))))
def B117_9 (orc : Orc) : K := o_aload 0 (o_dup (o_getI 8 4 (o_iconst 1 (o_i2 (fun x y => x + y) (o_putI 8 4 (o_jmp 8))))))
def B117_10 (orc : Orc) : K := o_aload 0 (o_aload 0 (o_getI 8 4 (o_aload 0 (o_getI 8 5 (o_i2 (fun x y => x - y) (o_iconst 4 (o_igt (o_iconst 4 (o_jmp 11)) (o_iconst 2 (o_jmp 11)))))))))
def B117_11 (orc : Orc) : K := o_putI 8 6 (o_vret)
def B117_12 (orc : Orc) : K := o_aload 0 (o_dup (o_getI 8 4 (o_iconst 1 (o_i2 (fun x y => x + y) (o_putI 8 4 (o_aload 0 (o_iload 1 (o_iconst 40 (o_ilt (o_jmp 13) (o_iload 1 (o_iconst 43 (o_igt (o_jmp 13) (o_jmp 14)))))))))))))
def B117_13 (orc : Orc) : K := o_iload 1 (o_iconst 45 (o_ieq (o_jmp 14) (o_iload 1 (o_iconst 59 (o_ilt (o_jmp 15) (o_iload 1 (o_iconst 61 (o_igt (o_jmp 15) (o_jmp 14)))))))))
def B117_14 (orc : Orc) : K := o_iconst 3 (o_jmp 16)
def B117_15 (orc : Orc) : K := o_iconst 4 (o_jmp 16)
def B117_16 (orc : Orc) : K := o_putI 8 6 (o_vret)
def P117 (orc : Orc) (b : Nat) : K := match b with
  | 0 => B117_0 orc
  | 1 => B117_1 orc
  | 2 => B117_2 orc
  | 3 => B117_3 orc
  | 4 => B117_4 orc
  | 5 => B117_5 orc
  | 6 => B117_6 orc
  | 7 => B117_7 orc
  | 8 => B117_8 orc
  | 9 => B117_9 orc
  | 10 => B117_10 orc
  | 11 => B117_11 orc
  | 12 => B117_12 orc
  | 13 => B117_13 orc
  | 14 => B117_14 orc
  | 15 => B117_15 orc
  | 16 => B117_16 orc
  | _ => fun _ _ _ => none
def Q117 (b : Nat) : Nat := match b with
  | 0 => 0
  | 1 => 39
  | 2 => 52
  | 3 => 109
  | 4 => 175
  | 5 => 188
  | 6 => 208
  | 7 => 212
  | 8 => 224
  | 9 => 286
  | 10 => 299
  | 11 => 318
  | 12 => 322
  | 13 => 345
  | 14 => 363
  | 15 => 367
  | 16 => 368
  | _ => 0
/-! 118: TruceWallModel.isWord(J)Z -/
def B118_0 (orc : Orc) : K := o_aload 0 (o_getI 8 6 (o_iconst 1 (o_ieq (o_aload 0 (o_getL 8 7 (o_lload 1 (o_lcmp (o_if0 (o_iconst 1 (o_zret)) (o_iconst 0 (o_zret))))))) (o_iconst 0 (o_zret)))))
def P118 (orc : Orc) (b : Nat) : K := match b with
  | 0 => B118_0 orc
  | _ => fun _ _ _ => none
def Q118 (b : Nat) : Nat := match b with
  | 0 => 0
  | _ => 0
/-! 119: TruceWallModel.isSign(I)Z -/
def B119_0 (orc : Orc) : K := o_aload 0 (o_getI 8 6 (o_iconst 3 (o_ieq (o_aload 0 (o_getR 8 2 (o_aload 0 (o_getI 8 5 (o_iald 0 (o_iload 1 (o_ieq (o_iconst 1 (o_zret)) (o_iconst 0 (o_zret))))))))) (o_iconst 0 (o_zret)))))
def P119 (orc : Orc) (b : Nat) : K := match b with
  | 0 => B119_0 orc
  | _ => fun _ _ _ => none
def Q119 (b : Nat) : Nat := match b with
  | 0 => 0
  | _ => 0
/-! 120: TruceWallModel.fails(I)Z -/
def B120_0 (orc : Orc) : K := o_aload 0 (o_iload 1 (o_iconst 16 (o_aload 0 (o_getI 8 5 (o_i2 (fun x y => x * y) (o_i2 (fun x y => x + y) (o_putI 8 9 (o_iconst 0 (o_zret)))))))))
def P120 (orc : Orc) (b : Nat) : K := match b with
  | 0 => B120_0 orc
  | _ => fun _ _ _ => none
def Q120 (b : Nat) : Nat := match b with
  | 0 => 0
  | _ => 0
/-! 121: TruceWallModel.puts(I)V -/
def B121_0 (orc : Orc) : K := o_aload 0 (o_getR 8 19 (o_aload 0 (o_getI 8 20 (o_iload 1 (o_iast 0 (fun x => x) (o_aload 0 (o_dup (o_getI 8 20 (o_iconst 1 (o_i2 (fun x y => x + y) (o_putI 8 20 (o_vret))))))))))))
def P121 (orc : Orc) (b : Nat) : K := match b with
  | 0 => B121_0 orc
  | _ => fun _ _ _ => none
def Q121 (b : Nat) : Nat := match b with
  | 0 => 0
  | _ => 0
/-! 122: TruceWallModel.fact()I -/
def B122_0 (orc : Orc) : K := o_aload 0 (o_getI 8 6 (o_iconst 1 (o_ieq (o_aload 0 (o_getL 8 7 (o_lconst 459383 (o_lcmp (o_if0 (o_iconst 1 (o_iret)) (o_aload 0 (o_getL 8 7 (o_lconst 6491892 (o_lcmp (o_if0 (o_iconst 2 (o_iret)) (o_aload 0 (o_getL 8 7 (o_lconst 4555675 (o_lcmp (o_if0 (o_iconst 3 (o_iret)) (o_aload 0 (o_getL 8 7 (o_lconst 2968 (o_lcmp (o_if0 (o_iconst 4 (o_iret)) (o_iconst 0 (o_iret)))))))))))))))))))))) (o_iconst 0 (o_iret)))))
def P122 (orc : Orc) (b : Nat) : K := match b with
  | 0 => B122_0 orc
  | _ => fun _ _ _ => none
def Q122 (b : Nat) : Nat := match b with
  | 0 => 0
  | _ => 0
/-! 123: TruceWallModel.reads()Z -/
def B123_0 (orc : Orc) : K := o_iconst 0 (o_istore 1 (o_iconst 1 (o_istore 2 (o_aload 0 (o_getR 8 24 (o_iconst 0 (o_iconst 0 (o_iast 4 (fun x => vp_nar .boolean x) (o_jmp 1)))))))))
def B123_1 (orc : Orc) : K := o_iload 2 (o_if0 (o_aload 0 (o_iconst 43 (o_vI orc 119 2 8 (o_if0 (o_aload 0 (o_iconst 45 (o_vI orc 119 2 8 (o_if0 (o_aload 0 (o_iconst 42 (o_vI orc 119 2 8 (o_if0 (o_aload 0 (o_iconst 60 (o_vI orc 119 2 8 (o_if0 (o_aload 0 (o_iconst 61 (o_vI orc 119 2 8 (o_if0 (o_jmp 13) (o_jmp 11))))) (o_jmp 11))))) (o_jmp 9))))) (o_jmp 9))))) (o_jmp 9))))) (o_aload 0 (o_vI orc 122 1 8 (o_istore 3 (o_aload 0 (o_lconst 10631 (o_vI orc 118 2 8 (o_istore 4 (o_aload 0 (o_iconst 40 (o_vI orc 119 2 8 (o_istore 5 (o_iload 3 (o_if0 (o_iload 4 (o_if0 (o_iload 5 (o_if0 (o_aload 0 (o_getI 8 6 (o_iconst 2 (o_ieq (o_jmp 2) (o_aload 0 (o_iconst 1 (o_vI orc 120 2 8 (o_zret)))))))) (o_jmp 2))) (o_jmp 2))) (o_jmp 2)))))))))))))))
def B123_2 (orc : Orc) : K := o_iload 1 (o_iconst 5 (o_ieq (o_aload 0 (o_iconst 5 (o_vI orc 120 2 8 (o_zret)))) (o_iload 4 (o_if0 (o_iload 5 (o_if0 (o_aload 0 (o_iload 3 (o_ifp (o_iload 3 (o_jmp 6)) (o_iconst 100 (o_aload 0 (o_getI 8 8 (o_i2 (fun x y => x + y) (o_jmp 6)))))))) (o_jmp 3))) (o_jmp 3)))))
def B123_3 (orc : Orc) : K := o_aload 0 (o_iload 4 (o_if0 (o_iconst 28 (o_jmp 4)) (o_iconst 30 (o_jmp 4))))
def B123_4 (orc : Orc) : K := o_vV orc 121 2 8 (o_iinc 1 1 (o_aload 0 (o_getR 8 23 (o_iload 1 (o_iload 4 (o_if0 (o_iconst 2 (o_jmp 5)) (o_iconst 1 (o_jmp 5))))))))
def B123_5 (orc : Orc) : K := o_iast 0 (fun x => x) (o_aload 0 (o_getR 8 24 (o_iload 1 (o_iconst 0 (o_iast 4 (fun x => vp_nar .boolean x) (o_jmp 8))))))
def B123_6 (orc : Orc) : K := o_vV orc 121 2 8 (o_iconst 0 (o_istore 2 (o_jmp 7)))
def B123_7 (orc : Orc) : K := o_iload 1 (o_ifp (o_aload 0 (o_getR 8 23 (o_iload 1 (o_iald 0 (o_iconst 1 (o_ieq (o_iinc 1 (-1) (o_jmp 7)) (o_jmp 8))))))) (o_jmp 8))
def B123_8 (orc : Orc) : K := o_aload 0 (o_vV orc 117 1 8 (o_jmp 1))
def B123_9 (orc : Orc) : K := o_aload 0 (o_aload 0 (o_iconst 43 (o_vI orc 119 2 8 (o_if0 (o_aload 0 (o_iconst 45 (o_vI orc 119 2 8 (o_if0 (o_iconst 22 (o_jmp 10)) (o_iconst 21 (o_jmp 10)))))) (o_iconst 20 (o_jmp 10))))))
def B123_10 (orc : Orc) : K := o_vV orc 121 2 8 (o_iconst 1 (o_istore 2 (o_jmp 19)))
def B123_11 (orc : Orc) : K := o_aload 0 (o_getR 8 24 (o_iload 1 (o_iald 4 (o_if0 (o_aload 0 (o_aload 0 (o_iconst 60 (o_vI orc 119 2 8 (o_if0 (o_iconst 25 (o_jmp 12)) (o_iconst 24 (o_jmp 12))))))) (o_jmp 13)))))
def B123_12 (orc : Orc) : K := o_vV orc 121 2 8 (o_aload 0 (o_getR 8 24 (o_iload 1 (o_iconst 1 (o_iast 4 (fun x => vp_nar .boolean x) (o_iconst 1 (o_istore 2 (o_jmp 19))))))))
def B123_13 (orc : Orc) : K := o_aload 0 (o_lconst 1111 (o_vI orc 118 2 8 (o_if0 (o_aload 0 (o_lconst 423 (o_vI orc 118 2 8 (o_if0 (o_aload 0 (o_iconst 41 (o_vI orc 119 2 8 (o_if0 (o_jmp 17) (o_iload 1 (o_ifp (o_aload 0 (o_iconst 29 (o_vV orc 121 2 8 (o_iinc 1 (-1) (o_jmp 16))))) (o_jmp 17))))))) (o_jmp 14))))) (o_jmp 14))))
def B123_14 (orc : Orc) : K := o_aload 0 (o_aload 0 (o_lconst 1111 (o_vI orc 118 2 8 (o_if0 (o_iconst 27 (o_jmp 15)) (o_iconst 26 (o_jmp 15))))))
def B123_15 (orc : Orc) : K := o_vV orc 121 2 8 (o_aload 0 (o_getR 8 24 (o_iload 1 (o_iconst 0 (o_iast 4 (fun x => vp_nar .boolean x) (o_iconst 1 (o_istore 2 (o_jmp 19))))))))
def B123_16 (orc : Orc) : K := o_iload 1 (o_ifp (o_aload 0 (o_getR 8 23 (o_iload 1 (o_iald 0 (o_iconst 1 (o_ieq (o_iinc 1 (-1) (o_jmp 16)) (o_jmp 19))))))) (o_jmp 19))
def B123_17 (orc : Orc) : K := o_iload 1 (o_if0 (o_aload 0 (o_iconst 59 (o_vI orc 119 2 8 (o_if0 (o_jmp 18) (o_aload 0 (o_vV orc 117 1 8 (o_iconst 1 (o_zret)))))))) (o_jmp 18))
def B123_18 (orc : Orc) : K := o_aload 0 (o_iconst 1 (o_vI orc 120 2 8 (o_zret)))
def B123_19 (orc : Orc) : K := o_aload 0 (o_vV orc 117 1 8 (o_jmp 1))
def P123 (orc : Orc) (b : Nat) : K := match b with
  | 0 => B123_0 orc
  | 1 => B123_1 orc
  | 2 => B123_2 orc
  | 3 => B123_3 orc
  | 4 => B123_4 orc
  | 5 => B123_5 orc
  | 6 => B123_6 orc
  | 7 => B123_7 orc
  | 8 => B123_8 orc
  | 9 => B123_9 orc
  | 10 => B123_10 orc
  | 11 => B123_11 orc
  | 12 => B123_12 orc
  | 13 => B123_13 orc
  | 14 => B123_14 orc
  | 15 => B123_15 orc
  | 16 => B123_16 orc
  | 17 => B123_17 orc
  | 18 => B123_18 orc
  | 19 => B123_19 orc
  | _ => fun _ _ _ => none
def Q123 (b : Nat) : Nat := match b with
  | 0 => 0
  | 1 => 11
  | 2 => 65
  | 3 => 86
  | 4 => 99
  | 5 => 120
  | 6 => 147
  | 7 => 152
  | 8 => 172
  | 9 => 206
  | 10 => 237
  | 11 => 263
  | 12 => 289
  | 13 => 304
  | 14 => 324
  | 15 => 342
  | 16 => 379
  | 17 => 399
  | 18 => 418
  | 19 => 424
  | _ => 0
/-! 124: TruceWallModel.opens(I)V -/
def B124_0 (orc : Orc) : K := o_aload 0 (o_getR 8 26 (o_iload 1 (o_iconst 0 (o_iast 0 (fun x => x) (o_aload 0 (o_getR 8 28 (o_iload 1 (o_iconst 0 (o_iast 0 (fun x => x) (o_aload 0 (o_getR 8 29 (o_iload 1 (o_iconst 0 (o_iast 0 (fun x => x) (o_aload 0 (o_getR 8 30 (o_iload 1 (o_iconst 20 (o_iast 0 (fun x => x) (o_aload 0 (o_getR 8 32 (o_iload 1 (o_iconst 0 (o_iast 0 (fun x => x) (o_vret)))))))))))))))))))))))))
def P124 (orc : Orc) (b : Nat) : K := match b with
  | 0 => B124_0 orc
  | _ => fun _ _ _ => none
def Q124 (b : Nat) : Nat := match b with
  | 0 => 0
  | _ => 0
/-! 125: TruceWallModel.sums(I)V -/
def B125_0 (orc : Orc) : K := o_aload 0 (o_getR 8 29 (o_iload 1 (o_aload 0 (o_getR 8 30 (o_iload 1 (o_iald 0 (o_iconst 21 (o_ieq (o_aload 0 (o_getR 8 29 (o_iload 1 (o_iald 0 (o_aload 0 (o_getR 8 31 (o_iload 1 (o_iald 0 (o_i2 (fun x y => x - y) (o_jmp 1)))))))))) (o_aload 0 (o_getR 8 29 (o_iload 1 (o_iald 0 (o_aload 0 (o_getR 8 31 (o_iload 1 (o_iald 0 (o_i2 (fun x y => x + y) (o_jmp 1))))))))))))))))))
def B125_1 (orc : Orc) : K := o_iast 0 (fun x => x) (o_aload 0 (o_getR 8 32 (o_iload 1 (o_iconst 0 (o_iast 0 (fun x => x) (o_vret))))))
def P125 (orc : Orc) (b : Nat) : K := match b with
  | 0 => B125_0 orc
  | 1 => B125_1 orc
  | _ => fun _ _ _ => none
def Q125 (b : Nat) : Nat := match b with
  | 0 => 0
  | 1 => 45
  | _ => 0
/-! 126: TruceWallModel.tests(I)V -/
def B126_0 (orc : Orc) : K := o_aload 0 (o_iload 1 (o_vV orc 125 2 8 (o_aload 0 (o_getR 8 29 (o_iload 1 (o_iald 0 (o_istore 2 (o_aload 0 (o_getR 8 28 (o_iload 1 (o_iald 0 (o_iconst 24 (o_ieq (o_aload 0 (o_getR 8 27 (o_iload 1 (o_iald 0 (o_aload 0 (o_getR 8 29 (o_iload 1 (o_iald 0 (o_ilt (o_iconst 1 (o_jmp 1)) (o_iconst 0 (o_jmp 1))))))))))) (o_jmp 2))))))))))))))
def B126_1 (orc : Orc) : K := o_istore 2 (o_jmp 2)
def B126_2 (orc : Orc) : K := o_aload 0 (o_getR 8 28 (o_iload 1 (o_iald 0 (o_iconst 25 (o_ieq (o_aload 0 (o_getR 8 27 (o_iload 1 (o_iald 0 (o_aload 0 (o_getR 8 29 (o_iload 1 (o_iald 0 (o_ieq (o_iconst 1 (o_jmp 3)) (o_iconst 0 (o_jmp 3))))))))))) (o_jmp 4))))))
def B126_3 (orc : Orc) : K := o_istore 2 (o_jmp 4)
def B126_4 (orc : Orc) : K := o_aload 0 (o_getR 8 26 (o_iload 1 (o_iald 0 (o_iconst 26 (o_ieq (o_aload 0 (o_getR 8 25 (o_iload 1 (o_iald 0 (o_if0 (o_jmp 5) (o_iload 2 (o_if0 (o_jmp 5) (o_iconst 1 (o_jmp 6))))))))) (o_jmp 7))))))
def B126_5 (orc : Orc) : K := o_iconst 0 (o_jmp 6)
def B126_6 (orc : Orc) : K := o_istore 2 (o_jmp 7)
def B126_7 (orc : Orc) : K := o_aload 0 (o_getR 8 26 (o_iload 1 (o_iald 0 (o_iconst 27 (o_ieq (o_aload 0 (o_getR 8 25 (o_iload 1 (o_iald 0 (o_if0 (o_iload 2 (o_if0 (o_iconst 0 (o_jmp 9)) (o_jmp 8))) (o_jmp 8)))))) (o_jmp 10))))))
def B126_8 (orc : Orc) : K := o_iconst 1 (o_jmp 9)
def B126_9 (orc : Orc) : K := o_istore 2 (o_jmp 10)
def B126_10 (orc : Orc) : K := o_aload 0 (o_getR 8 25 (o_iload 1 (o_iload 2 (o_iast 0 (fun x => x) (o_aload 0 (o_getR 8 28 (o_iload 1 (o_iconst 0 (o_iast 0 (fun x => x) (o_aload 0 (o_getR 8 29 (o_iload 1 (o_iconst 0 (o_iast 0 (fun x => x) (o_aload 0 (o_getR 8 30 (o_iload 1 (o_iconst 20 (o_iast 0 (fun x => x) (o_vret))))))))))))))))))))
def P126 (orc : Orc) (b : Nat) : K := match b with
  | 0 => B126_0 orc
  | 1 => B126_1 orc
  | 2 => B126_2 orc
  | 3 => B126_3 orc
  | 4 => B126_4 orc
  | 5 => B126_5 orc
  | 6 => B126_6 orc
  | 7 => B126_7 orc
  | 8 => B126_8 orc
  | 9 => B126_9 orc
  | 10 => B126_10 orc
  | _ => fun _ _ _ => none
def Q126 (b : Nat) : Nat := match b with
  | 0 => 0
  | 1 => 43
  | 2 => 44
  | 3 => 75
  | 4 => 76
  | 5 => 104
  | 6 => 105
  | 7 => 106
  | 8 => 130
  | 9 => 135
  | 10 => 136
  | _ => 0
/-! 127: TruceWallModel.worked(I)I -/
def B127_0 (orc : Orc) : K := o_iconst 0 (o_istore 2 (o_aload 0 (o_iconst 0 (o_vV orc 124 2 8 (o_aload 0 (o_getR 8 17 (o_iload 1 (o_iald 0 (o_istore 3 (o_jmp 1))))))))))
def B127_1 (orc : Orc) : K := o_iload 3 (o_aload 0 (o_getR 8 18 (o_iload 1 (o_iald 0 (o_ilt (o_aload 0 (o_getR 8 19 (o_iload 3 (o_iald 0 (o_istore 4 (o_iload 4 (o_iconst 28 (o_ieq (o_jmp 2) (o_iload 4 (o_iconst 30 (o_ieq (o_jmp 2) (o_iload 4 (o_iconst 20 (o_ieq (o_jmp 4) (o_iload 4 (o_iconst 21 (o_ieq (o_jmp 4) (o_iload 4 (o_iconst 22 (o_ieq (o_aload 0 (o_getR 8 32 (o_iload 2 (o_iload 4 (o_iast 0 (fun x => x) (o_jmp 12)))))) (o_iload 4 (o_iconst 24 (o_ieq (o_jmp 5) (o_iload 4 (o_iconst 25 (o_ieq (o_jmp 5) (o_iload 4 (o_iconst 26 (o_ieq (o_jmp 6) (o_iload 4 (o_iconst 27 (o_ieq (o_jmp 6) (o_iload 4 (o_iconst 100 (o_ilt (o_iload 4 (o_iconst 20 (o_ilt (o_aload 0 (o_getR 8 34 (o_iload 4 (o_iald 0 (o_jmp 7))))) (o_iconst 0 (o_jmp 7))))) (o_iload 4 (o_iconst 100 (o_i2 (fun x y => x - y) (o_jmp 7))))))))))))))))))))))))))))))))))))))) (o_aload 0 (o_iconst 0 (o_vV orc 126 2 8 (o_aload 0 (o_getR 8 25 (o_iconst 0 (o_iald 0 (o_iret)))))))))))))
def B127_2 (orc : Orc) : K := o_iinc 2 1 (o_aload 0 (o_getR 8 33 (o_iload 2 (o_iload 4 (o_iconst 30 (o_ieq (o_iconst 1 (o_jmp 3)) (o_iconst 0 (o_jmp 3))))))))
def B127_3 (orc : Orc) : K := o_iast 0 (fun x => x) (o_aload 0 (o_iload 2 (o_vV orc 124 2 8 (o_jmp 12))))
def B127_4 (orc : Orc) : K := o_aload 0 (o_iload 2 (o_vV orc 125 2 8 (o_aload 0 (o_getR 8 30 (o_iload 2 (o_iload 4 (o_iast 0 (fun x => x) (o_jmp 12))))))))
def B127_5 (orc : Orc) : K := o_aload 0 (o_iload 2 (o_vV orc 125 2 8 (o_aload 0 (o_getR 8 27 (o_iload 2 (o_aload 0 (o_getR 8 29 (o_iload 2 (o_iald 0 (o_iast 0 (fun x => x) (o_aload 0 (o_getR 8 28 (o_iload 2 (o_iload 4 (o_iast 0 (fun x => x) (o_aload 0 (o_getR 8 29 (o_iload 2 (o_iconst 0 (o_iast 0 (fun x => x) (o_aload 0 (o_getR 8 30 (o_iload 2 (o_iconst 20 (o_iast 0 (fun x => x) (o_jmp 12))))))))))))))))))))))))))
def B127_6 (orc : Orc) : K := o_aload 0 (o_iload 2 (o_vV orc 126 2 8 (o_aload 0 (o_getR 8 26 (o_iload 2 (o_iload 4 (o_iast 0 (fun x => x) (o_jmp 12))))))))
def B127_7 (orc : Orc) : K := o_istore 5 (o_iload 4 (o_iconst 29 (o_ieq (o_aload 0 (o_iload 2 (o_vV orc 126 2 8 (o_aload 0 (o_getR 8 25 (o_iload 2 (o_iald 0 (o_istore 5 (o_iinc 2 (-1) (o_jmp 8)))))))))) (o_jmp 8))))
def B127_8 (orc : Orc) : K := o_iload 2 (o_ifp (o_aload 0 (o_getR 8 33 (o_iload 2 (o_iald 0 (o_iconst 1 (o_ieq (o_iload 5 (o_if0 (o_iconst 1 (o_jmp 9)) (o_iconst 0 (o_jmp 9)))) (o_jmp 10))))))) (o_jmp 10))
def B127_9 (orc : Orc) : K := o_istore 5 (o_iinc 2 (-1) (o_jmp 8))
def B127_10 (orc : Orc) : K := o_aload 0 (o_getR 8 31 (o_iload 2 (o_aload 0 (o_getR 8 32 (o_iload 2 (o_iald 0 (o_if0 (o_iload 5 (o_jmp 11)) (o_aload 0 (o_getR 8 31 (o_iload 2 (o_iald 0 (o_iload 5 (o_i2 (fun x y => x * y) (o_jmp 11))))))))))))))
def B127_11 (orc : Orc) : K := o_iast 0 (fun x => x) (o_jmp 12)
def B127_12 (orc : Orc) : K := o_iinc 3 1 (o_jmp 1)
def P127 (orc : Orc) (b : Nat) : K := match b with
  | 0 => B127_0 orc
  | 1 => B127_1 orc
  | 2 => B127_2 orc
  | 3 => B127_3 orc
  | 4 => B127_4 orc
  | 5 => B127_5 orc
  | 6 => B127_6 orc
  | 7 => B127_7 orc
  | 8 => B127_8 orc
  | 9 => B127_9 orc
  | 10 => B127_10 orc
  | 11 => B127_11 orc
  | 12 => B127_12 orc
  | _ => fun _ _ _ => none
def Q127 (b : Nat) : Nat := match b with
  | 0 => 0
  | 1 => 14
  | 2 => 46
  | 3 => 66
  | 4 => 89
  | 5 => 137
  | 6 => 194
  | 7 => 243
  | 8 => 268
  | 9 => 292
  | 10 => 300
  | 11 => 328
  | 12 => 329
  | _ => 0
/-! 128: TruceWallModel.isKept()Z -/
def B128_0 (orc : Orc) : K := o_aload 0 (o_getI 8 6 (o_iconst 1 (o_ieq (o_aload 0 (o_getL 8 7 (o_lconst 453774 (o_lcmp (o_if0 (o_jmp 1) (o_aload 0 (o_getL 8 7 (o_lconst 10502357 (o_lcmp (o_if0 (o_jmp 1) (o_aload 0 (o_getL 8 7 (o_lconst 3754504 (o_lcmp (o_if0 (o_jmp 1) (o_aload 0 (o_getL 8 7 (o_lconst 125042 (o_lcmp (o_if0 (o_jmp 1) (o_aload 0 (o_getL 8 7 (o_lconst 8740238 (o_lcmp (o_if0 (o_jmp 1) (o_aload 0 (o_getL 8 7 (o_lconst 38444009 (o_lcmp (o_if0 (o_jmp 1) (o_aload 0 (o_getL 8 7 (o_lconst 9876874 (o_lcmp (o_if0 (o_jmp 1) (o_aload 0 (o_getL 8 7 (o_lconst 410684 (o_lcmp (o_if0 (o_jmp 1) (o_aload 0 (o_getL 8 7 (o_lconst 240239 (o_lcmp (o_if0 (o_jmp 1) (o_aload 0 (o_getL 8 7 (o_lconst 2774 (o_lcmp (o_if0 (o_jmp 1) (o_aload 0 (o_getL 8 7 (o_lconst 459383 (o_lcmp (o_if0 (o_jmp 1) (o_aload 0 (o_getL 8 7 (o_lconst 6491892 (o_lcmp (o_if0 (o_jmp 1) (o_aload 0 (o_getL 8 7 (o_lconst 4555675 (o_lcmp (o_if0 (o_jmp 1) (o_aload 0 (o_getL 8 7 (o_lconst 2968 (o_lcmp (o_if0 (o_jmp 1) (o_aload 0 (o_getL 8 7 (o_lconst 10631 (o_lcmp (o_if0 (o_jmp 1) (o_aload 0 (o_getL 8 7 (o_lconst 1111 (o_lcmp (o_if0 (o_jmp 1) (o_aload 0 (o_getL 8 7 (o_lconst 423 (o_lcmp (o_if0 (o_jmp 1) (o_iconst 0 (o_zret))))))))))))))))))))))))))))))))))))))))))))))))))))))))))))))))))))))))))))))))))))))) (o_iconst 1 (o_zret)))))
def B128_1 (orc : Orc) : K := o_iconst 1 (o_zret)
def P128 (orc : Orc) (b : Nat) : K := match b with
  | 0 => B128_0 orc
  | 1 => B128_1 orc
  | _ => fun _ _ _ => none
def Q128 (b : Nat) : Nat := match b with
  | 0 => 0
  | 1 => 197
  | _ => 0
/-! 129: TruceWallModel.needsNumber(II)Z -/
def B129_0 (orc : Orc) : K := o_aload 0 (o_getI 8 6 (o_iconst 2 (o_ieq (o_aload 0 (o_getI 8 8 (o_iload 1 (o_iload 2 (o_sI orc 114 3 (o_if0 (o_aload 0 (o_iconst 4 (o_vI orc 120 2 8 (o_zret)))) (o_aload 0 (o_aload 0 (o_getI 8 8 (o_putI 8 35 (o_aload 0 (o_vV orc 117 1 8 (o_iconst 1 (o_zret)))))))))))))) (o_aload 0 (o_iconst 1 (o_vI orc 120 2 8 (o_zret)))))))
def P129 (orc : Orc) (b : Nat) : K := match b with
  | 0 => B129_0 orc
  | _ => fun _ _ _ => none
def Q129 (b : Nat) : Nat := match b with
  | 0 => 0
  | _ => 0
/-! 130: TruceWallModel.ends()Z -/
def B130_0 (orc : Orc) : K := o_aload 0 (o_iconst 59 (o_vI orc 119 2 8 (o_if0 (o_aload 0 (o_iconst 1 (o_vI orc 120 2 8 (o_zret)))) (o_aload 0 (o_vV orc 117 1 8 (o_iconst 1 (o_zret)))))))
def P130 (orc : Orc) (b : Nat) : K := match b with
  | 0 => B130_0 orc
  | _ => fun _ _ _ => none
def Q130 (b : Nat) : Nat := match b with
  | 0 => 0
  | _ => 0
/-! 131: TruceWallModel.kindAt()I -/
def B131_0 (orc : Orc) : K := o_aload 0 (o_lconst 8740238 (o_vI orc 118 2 8 (o_if0 (o_aload 0 (o_lconst 38444009 (o_vI orc 118 2 8 (o_if0 (o_aload 0 (o_lconst 9876874 (o_vI orc 118 2 8 (o_if0 (o_aload 0 (o_lconst 410684 (o_vI orc 118 2 8 (o_if0 (o_aload 0 (o_lconst 240239 (o_vI orc 118 2 8 (o_if0 (o_aload 0 (o_lconst 2774 (o_vI orc 118 2 8 (o_if0 (o_iconst (-1) (o_iret)) (o_iconst 5 (o_iret)))))) (o_iconst 4 (o_iret)))))) (o_iconst 3 (o_iret)))))) (o_iconst 2 (o_iret)))))) (o_iconst 1 (o_iret)))))) (o_iconst 0 (o_iret)))))
def P131 (orc : Orc) (b : Nat) : K := match b with
  | 0 => B131_0 orc
  | _ => fun _ _ _ => none
def Q131 (b : Nat) : Nat := match b with
  | 0 => 0
  | _ => 0
/-! 132: TruceWallModel.readsStone()Z -/
def B132_0 (orc : Orc) : K := o_aload 0 (o_getR 8 12 (o_iconst 1 (o_iald 0 (o_iconst 6 (o_ieq (o_aload 0 (o_iconst 5 (o_vI orc 120 2 8 (o_zret)))) (o_aload 0 (o_getR 8 12 (o_iconst 1 (o_iald 0 (o_istore 1 (o_aload 0 (o_vV orc 117 1 8 (o_aload 0 (o_vI orc 128 1 8 (o_if0 (o_iconst 0 (o_istore 2 (o_jmp 1))) (o_aload 0 (o_iconst 1 (o_vI orc 120 2 8 (o_zret)))))))))))))))))))
def B132_1 (orc : Orc) : K := o_iload 2 (o_iload 1 (o_ilt (o_aload 0 (o_getR 8 16 (o_iload 2 (o_lald (o_aload 0 (o_getL 8 7 (o_lcmp (o_if0 (o_aload 0 (o_iconst 3 (o_vI orc 120 2 8 (o_zret)))) (o_iinc 2 1 (o_jmp 1)))))))))) (o_aload 0 (o_getR 8 16 (o_iload 1 (o_aload 0 (o_getL 8 7 (o_last (o_aload 0 (o_vV orc 117 1 8 (o_aload 0 (o_vI orc 131 1 8 (o_istore 2 (o_iload 2 (o_ifn (o_aload 0 (o_iconst 1 (o_vI orc 120 2 8 (o_zret)))) (o_aload 0 (o_getR 8 14 (o_iconst 6 (o_iload 1 (o_i2 (fun x y => x + y) (o_iload 2 (o_iast 0 (fun x => x) (o_aload 0 (o_vV orc 117 1 8 (o_aload 0 (o_iload 2 (o_iconst 1 (o_ieq (o_iconst 2 (o_jmp 2)) (o_iconst 1 (o_jmp 2))))))))))))))))))))))))))))))
def B132_2 (orc : Orc) : K := o_iload 2 (o_iconst 2 (o_ieq (o_jmp 3) (o_iload 2 (o_iconst 3 (o_ieq (o_jmp 3) (o_iconst 4 (o_jmp 4)))))))
def B132_3 (orc : Orc) : K := o_iconst 1 (o_jmp 4)
def B132_4 (orc : Orc) : K := o_vI orc 129 3 8 (o_if0 (o_iconst 0 (o_zret)) (o_aload 0 (o_getR 8 15 (o_iconst 6 (o_iload 1 (o_i2 (fun x y => x + y) (o_aload 0 (o_getI 8 35 (o_iast 0 (fun x => x) (o_aload 0 (o_getR 8 12 (o_iconst 1 (o_dup2 (o_iald 0 (o_iconst 1 (o_i2 (fun x y => x + y) (o_iast 0 (fun x => x) (o_aload 0 (o_vI orc 130 1 8 (o_zret))))))))))))))))))))
def P132 (orc : Orc) (b : Nat) : K := match b with
  | 0 => B132_0 orc
  | 1 => B132_1 orc
  | 2 => B132_2 orc
  | 3 => B132_3 orc
  | 4 => B132_4 orc
  | _ => fun _ _ _ => none
def Q132 (b : Nat) : Nat := match b with
  | 0 => 0
  | 1 => 43
  | 2 => 128
  | 3 => 138
  | 4 => 143
  | _ => 0
/-! 133: TruceWallModel.readsGates()Z -/
def B133_0 (orc : Orc) : K := o_aload 0 (o_getI 8 21 (o_if0 (o_aload 0 (o_iconst 1 (o_putZ 8 21 (o_aload 0 (o_vV orc 117 1 8 (o_aload 0 (o_iconst 0 (o_iconst 1 (o_vI orc 129 3 8 (o_if0 (o_iconst 0 (o_zret)) (o_aload 0 (o_getR 8 13 (o_iconst 1 (o_aload 0 (o_getI 8 35 (o_iast 0 (fun x => x) (o_aload 0 (o_vI orc 130 1 8 (o_zret))))))))))))))))))) (o_aload 0 (o_iconst 3 (o_vI orc 120 2 8 (o_zret))))))
def P133 (orc : Orc) (b : Nat) : K := match b with
  | 0 => B133_0 orc
  | _ => fun _ _ _ => none
def Q133 (b : Nat) : Nat := match b with
  | 0 => 0
  | _ => 0
/-! 134: TruceWallModel.readsFine()Z -/
def B134_0 (orc : Orc) : K := o_aload 0 (o_getI 8 22 (o_if0 (o_aload 0 (o_iconst 1 (o_putZ 8 22 (o_aload 0 (o_vV orc 117 1 8 (o_aload 0 (o_vI orc 123 1 8 (o_if0 (o_iconst 0 (o_zret)) (o_aload 0 (o_getR 8 18 (o_iconst 1 (o_aload 0 (o_getI 8 20 (o_iast 0 (fun x => x) (o_iconst 1 (o_zret)))))))))))))))) (o_aload 0 (o_iconst 3 (o_vI orc 120 2 8 (o_zret))))))
def P134 (orc : Orc) (b : Nat) : K := match b with
  | 0 => B134_0 orc
  | _ => fun _ _ _ => none
def Q134 (b : Nat) : Nat := match b with
  | 0 => 0
  | _ => 0
/-! 135: TruceWallModel.readsAll()Z -/
def B135_0 (orc : Orc) : K := o_aload 0 (o_getR 8 12 (o_iconst 1 (o_iconst 0 (o_iast 0 (fun x => x) (o_aload 0 (o_getR 8 13 (o_iconst 1 (o_iconst 0 (o_iast 0 (fun x => x) (o_aload 0 (o_iconst 0 (o_putZ 8 21 (o_aload 0 (o_iconst 0 (o_putZ 8 22 (o_aload 0 (o_iconst 1000 (o_putI 8 20 (o_aload 0 (o_getR 8 17 (o_iconst 1 (o_iconst 1000 (o_iast 0 (fun x => x) (o_aload 0 (o_getR 8 18 (o_iconst 1 (o_iconst 1000 (o_iast 0 (fun x => x) (o_aload 0 (o_aload 0 (o_getI 8 1 (o_putI 8 3 (o_aload 0 (o_iconst 0 (o_putI 8 1 (o_aload 0 (o_iconst 0 (o_putI 8 4 (o_aload 0 (o_vV orc 117 1 8 (o_aload 0 (o_lconst 453774 (o_vI orc 118 2 8 (o_if0 (o_aload 0 (o_iconst 1 (o_vI orc 120 2 8 (o_zret)))) (o_aload 0 (o_vV orc 117 1 8 (o_aload 0 (o_iconst 2 (o_iconst 10 (o_vI orc 129 3 8 (o_if0 (o_iconst 0 (o_zret)) (o_aload 0 (o_getR 8 10 (o_iconst 1 (o_aload 0 (o_getI 8 35 (o_iast 0 (fun x => x) (o_aload 0 (o_iconst 1 (o_iconst 6 (o_vI orc 129 3 8 (o_if0 (o_iconst 0 (o_zret)) (o_aload 0 (o_getR 8 11 (o_iconst 1 (o_aload 0 (o_getI 8 35 (o_iast 0 (fun x => x) (o_aload 0 (o_vI orc 130 1 8 (o_if0 (o_iconst 0 (o_zret)) (o_jmp 1))))))))))))))))))))))))))))))))))))))))))))))))))))))))))))))))))))))))
def B135_1 (orc : Orc) : K := o_aload 0 (o_getI 8 6 (o_if0 (o_iconst 1 (o_zret)) (o_aload 0 (o_lconst 10502357 (o_vI orc 118 2 8 (o_if0 (o_aload 0 (o_lconst 3754504 (o_vI orc 118 2 8 (o_if0 (o_aload 0 (o_lconst 125042 (o_vI orc 118 2 8 (o_if0 (o_aload 0 (o_iconst 1 (o_vI orc 120 2 8 (o_jmp 2)))) (o_aload 0 (o_vI orc 134 1 8 (o_jmp 2))))))) (o_aload 0 (o_vI orc 133 1 8 (o_jmp 2))))))) (o_aload 0 (o_vI orc 132 1 8 (o_jmp 2)))))))))
def B135_2 (orc : Orc) : K := o_istore 1 (o_iload 1 (o_if0 (o_iconst 0 (o_zret)) (o_jmp 1)))
def P135 (orc : Orc) (b : Nat) : K := match b with
  | 0 => B135_0 orc
  | 1 => B135_1 orc
  | 2 => B135_2 orc
  | _ => fun _ _ _ => none
def Q135 (b : Nat) : Nat := match b with
  | 0 => 0
  | 1 => 144
  | 2 => 207
  | _ => 0
/-! 136: TruceWallModel.moves([IIII)V -/
def B136_0 (orc : Orc) : K := o_iconst 0 (o_istore 4 (o_jmp 1))
def B136_1 (orc : Orc) : K := o_iload 4 (o_iload 1 (o_ilt (o_aload 0 (o_iload 1 (o_iload 3 (o_i2 (fun x y => x * y) (o_iload 4 (o_i2 (fun x y => x + y) (o_aload 0 (o_iload 1 (o_iload 2 (o_i2 (fun x y => x * y) (o_iload 4 (o_i2 (fun x y => x + y) (o_iald 0 (o_iast 0 (fun x => x) (o_iinc 4 1 (o_jmp 1)))))))))))))))) (o_vret)))
def P136 (orc : Orc) (b : Nat) : K := match b with
  | 0 => B136_0 orc
  | 1 => B136_1 orc
  | _ => fun _ _ _ => none
def Q136 (b : Nat) : Nat := match b with
  | 0 => 0
  | 1 => 3
  | _ => 0
/-! 137: TruceWallModel.lays(II)V -/
def B137_0 (orc : Orc) : K := o_aload 0 (o_getR 8 10 (o_iconst 1 (o_iload 1 (o_iload 2 (o_sV orc 136 4 (o_aload 0 (o_getR 8 11 (o_iconst 1 (o_iload 1 (o_iload 2 (o_sV orc 136 4 (o_aload 0 (o_getR 8 12 (o_iconst 1 (o_iload 1 (o_iload 2 (o_sV orc 136 4 (o_aload 0 (o_getR 8 13 (o_iconst 1 (o_iload 1 (o_iload 2 (o_sV orc 136 4 (o_aload 0 (o_getR 8 14 (o_iconst 6 (o_iload 1 (o_iload 2 (o_sV orc 136 4 (o_aload 0 (o_getR 8 15 (o_iconst 6 (o_iload 1 (o_iload 2 (o_sV orc 136 4 (o_aload 0 (o_getR 8 19 (o_iconst 1000 (o_iload 1 (o_iload 2 (o_sV orc 136 4 (o_aload 0 (o_getR 8 17 (o_iload 2 (o_iconst 1000 (o_iload 2 (o_i2 (fun x y => x * y) (o_iast 0 (fun x => x) (o_aload 0 (o_getR 8 18 (o_iload 2 (o_iconst 1000 (o_iload 2 (o_i2 (fun x y => x * y) (o_aload 0 (o_getR 8 18 (o_iload 1 (o_iald 0 (o_i2 (fun x y => x + y) (o_aload 0 (o_getR 8 17 (o_iload 1 (o_iald 0 (o_i2 (fun x y => x - y) (o_iast 0 (fun x => x) (o_vret))))))))))))))))))))))))))))))))))))))))))))))))))))))))))))))))))
def P137 (orc : Orc) (b : Nat) : K := match b with
  | 0 => B137_0 orc
  | _ => fun _ _ _ => none
def Q137 (b : Nat) : Nat := match b with
  | 0 => 0
  | _ => 0
/-! 138: TruceWallModel.truce()I -/
def B138_0 (orc : Orc) : K := o_aload 0 (o_iconst 0 (o_putI 8 0 (o_aload 0 (o_vI orc 135 1 8 (o_if0 (o_aload 0 (o_getI 8 9 (o_iret))) (o_aload 0 (o_iconst 1 (o_iconst 0 (o_vV orc 137 3 8 (o_aload 0 (o_vV orc 139 1 8 (o_iconst 0 (o_iret)))))))))))))
def P138 (orc : Orc) (b : Nat) : K := match b with
  | 0 => B138_0 orc
  | _ => fun _ _ _ => none
def Q138 (b : Nat) : Nat := match b with
  | 0 => 0
  | _ => 0
/-! 139: TruceWallModel.begins()V -/
def B139_0 (orc : Orc) : K := o_aload 0 (o_iconst 0 (o_putI 8 38 (o_aload 0 (o_iconst 0 (o_putZ 8 44 (o_aload 0 (o_iconst 0 (o_vV orc 140 2 8 (o_aload 0 (o_iconst 0 (o_vV orc 142 2 8 (o_vret))))))))))))
def P139 (orc : Orc) (b : Nat) : K := match b with
  | 0 => B139_0 orc
  | _ => fun _ _ _ => none
def Q139 (b : Nat) : Nat := match b with
  | 0 => 0
  | _ => 0
/-! 140: TruceWallModel.nothing(I)V -/
def B140_0 (orc : Orc) : K := o_iconst 0 (o_istore 2 (o_jmp 1))
def B140_1 (orc : Orc) : K := o_iload 2 (o_iconst 64 (o_ilt (o_aload 0 (o_getR 8 36 (o_iload 1 (o_iload 2 (o_i2 (fun x y => x + y) (o_iconst 0 (o_iast 0 (fun x => x) (o_iinc 2 1 (o_jmp 1))))))))) (o_aload 0 (o_getR 8 36 (o_iload 1 (o_iconst 40 (o_i2 (fun x y => x + y) (o_aload 0 (o_getR 8 13 (o_iconst 0 (o_iald 0 (o_iast 0 (fun x => x) (o_aload 0 (o_getR 8 36 (o_iload 1 (o_iconst 40 (o_i2 (fun x y => x + y) (o_iconst 1 (o_i2 (fun x y => x + y) (o_aload 0 (o_getR 8 13 (o_iconst 0 (o_iald 0 (o_iast 0 (fun x => x) (o_vret)))))))))))))))))))))))))
def P140 (orc : Orc) (b : Nat) : K := match b with
  | 0 => B140_0 orc
  | 1 => B140_1 orc
  | _ => fun _ _ _ => none
def Q140 (b : Nat) : Nat := match b with
  | 0 => 0
  | 1 => 2
  | _ => 0
/-! 141: TruceWallModel.isClosed(I)Z -/
def B141_0 (orc : Orc) : K := o_iconst 0 (o_istore 2 (o_jmp 1))
def B141_1 (orc : Orc) : K := o_iload 2 (o_aload 0 (o_getR 8 10 (o_iconst 0 (o_iald 0 (o_ilt (o_aload 0 (o_getR 8 36 (o_iload 1 (o_iconst 10 (o_i2 (fun x y => x + y) (o_iload 2 (o_i2 (fun x y => x + y) (o_iald 0 (o_if0 (o_aload 0 (o_getR 8 36 (o_iload 1 (o_iload 2 (o_i2 (fun x y => x + y) (o_iald 0 (o_aload 0 (o_getR 8 11 (o_iconst 0 (o_iald 0 (o_ilt (o_iconst 0 (o_zret)) (o_jmp 2)))))))))))) (o_jmp 2)))))))))) (o_iconst 1 (o_zret)))))))
def B141_2 (orc : Orc) : K := o_iinc 2 1 (o_jmp 1)
def P141 (orc : Orc) (b : Nat) : K := match b with
  | 0 => B141_0 orc
  | 1 => B141_1 orc
  | 2 => B141_2 orc
  | _ => fun _ _ _ => none
def Q141 (b : Nat) : Nat := match b with
  | 0 => 0
  | 1 => 2
  | 2 => 45
  | _ => 0
/-! 142: TruceWallModel.looks(I)V -/
def B142_0 (orc : Orc) : K := o_aload 0 (o_getR 8 36 (o_iload 1 (o_iconst 45 (o_i2 (fun x y => x + y) (o_iald 0 (o_ifp (o_aload 0 (o_iload 1 (o_vI orc 141 2 8 (o_if0 (o_jmp 1) (o_iconst 1 (o_jmp 2)))))) (o_jmp 1)))))))
def B142_1 (orc : Orc) : K := o_iconst 0 (o_jmp 2)
def B142_2 (orc : Orc) : K := o_istore 2 (o_aload 0 (o_getR 8 36 (o_iload 1 (o_iconst 44 (o_i2 (fun x y => x + y) (o_iload 2 (o_if0 (o_iconst 0 (o_jmp 3)) (o_iconst 1 (o_jmp 3)))))))))
def B142_3 (orc : Orc) : K := o_iast 0 (fun x => x) (o_aload 0 (o_getR 8 36 (o_iload 1 (o_iconst 43 (o_i2 (fun x y => x + y) (o_iload 2 (o_if0 (o_aload 0 (o_iload 1 (o_vI orc 150 2 8 (o_if0 (o_iconst 1 (o_aload 0 (o_getR 8 36 (o_iload 1 (o_iconst 42 (o_i2 (fun x y => x + y) (o_iald 0 (o_i2 (fun x y => x + y) (o_jmp 4))))))))) (o_iconst 0 (o_jmp 4)))))) (o_iconst 2 (o_aload 0 (o_getR 8 36 (o_iload 1 (o_iconst 42 (o_i2 (fun x y => x + y) (o_iald 0 (o_i2 (fun x y => x - y) (o_jmp 4))))))))))))))))
def B142_4 (orc : Orc) : K := o_iast 0 (fun x => x) (o_vret)
def P142 (orc : Orc) (b : Nat) : K := match b with
  | 0 => B142_0 orc
  | 1 => B142_1 orc
  | 2 => B142_2 orc
  | 3 => B142_3 orc
  | 4 => B142_4 orc
  | _ => fun _ _ _ => none
def Q142 (b : Nat) : Nat := match b with
  | 0 => 0
  | 1 => 24
  | 2 => 25
  | 3 => 43
  | 4 => 93
  | _ => 0
/-! 143: TruceWallModel.isColumn(I)Z -/
def B143_0 (orc : Orc) : K := o_iload 1 (o_ifn (o_iconst 0 (o_zret)) (o_iload 1 (o_aload 0 (o_getR 8 10 (o_iconst 0 (o_iald 0 (o_ilt (o_iconst 1 (o_zret)) (o_iconst 0 (o_zret)))))))))
def P143 (orc : Orc) (b : Nat) : K := match b with
  | 0 => B143_0 orc
  | _ => fun _ _ _ => none
def Q143 (b : Nat) : Nat := match b with
  | 0 => 0
  | _ => 0
/-! 144: TruceWallModel.otherOf(I)I -/
def B144_0 (orc : Orc) : K := o_aload 0 (o_getR 8 10 (o_iconst 0 (o_iald 0 (o_iconst 1 (o_i2 (fun x y => x - y) (o_iload 1 (o_i2 (fun x y => x - y) (o_iret))))))))
def P144 (orc : Orc) (b : Nat) : K := match b with
  | 0 => B144_0 orc
  | _ => fun _ _ _ => none
def Q144 (b : Nat) : Nat := match b with
  | 0 => 0
  | _ => 0
/-! 145: TruceWallModel.isWide(II)Z -/
def B145_0 (orc : Orc) : K := o_aload 0 (o_getR 8 14 (o_iload 1 (o_iald 0 (o_iconst 5 (o_ieq (o_iload 2 (o_iconst 1 (o_aload 0 (o_getR 8 15 (o_iload 1 (o_iald 0 (o_sI orc 114 3 (o_zret)))))))) (o_iload 2 (o_aload 0 (o_getR 8 15 (o_iload 1 (o_iald 0 (o_ieq (o_iconst 1 (o_zret)) (o_iconst 0 (o_zret)))))))))))))
def P145 (orc : Orc) (b : Nat) : K := match b with
  | 0 => B145_0 orc
  | _ => fun _ _ _ => none
def Q145 (b : Nat) : Nat := match b with
  | 0 => 0
  | _ => 0
/-! 146: TruceWallModel.stands(IIII)Z -/
def B146_0 (orc : Orc) : K := o_aload 0 (o_getR 8 14 (o_iload 2 (o_iald 0 (o_istore 5 (o_aload 0 (o_getR 8 36 (o_iload 1 (o_iload 3 (o_i2 (fun x y => x + y) (o_iald 0 (o_istore 6 (o_iload 5 (o_iconst 3 (o_ieq (o_iconst 1 (o_zret)) (o_iload 5 (o_iconst 2 (o_ieq (o_iload 3 (o_if0 (o_jmp 1) (o_aload 0 (o_getR 8 36 (o_iload 1 (o_iconst 10 (o_i2 (fun x y => x + y) (o_iload 3 (o_i2 (fun x y => x + y) (o_iconst 1 (o_i2 (fun x y => x - y) (o_iald 0 (o_ifp (o_jmp 1) (o_aload 0 (o_getR 8 36 (o_iload 1 (o_iload 3 (o_i2 (fun x y => x + y) (o_iconst 1 (o_i2 (fun x y => x - y) (o_iald 0 (o_iload 6 (o_igt (o_jmp 1) (o_iconst 0 (o_zret))))))))))))))))))))))))) (o_iload 3 (o_iconst 1 (o_i2 (fun x y => x + y) (o_istore 7 (o_jmp 3))))))))))))))))))))))
def B146_1 (orc : Orc) : K := o_iload 3 (o_iconst 1 (o_i2 (fun x y => x + y) (o_aload 0 (o_getR 8 10 (o_iconst 0 (o_iald 0 (o_ieq (o_jmp 2) (o_aload 0 (o_getR 8 36 (o_iload 1 (o_iconst 10 (o_i2 (fun x y => x + y) (o_iload 3 (o_i2 (fun x y => x + y) (o_iconst 1 (o_i2 (fun x y => x + y) (o_iald 0 (o_ifp (o_jmp 2) (o_aload 0 (o_getR 8 36 (o_iload 1 (o_iload 3 (o_i2 (fun x y => x + y) (o_iconst 1 (o_i2 (fun x y => x + y) (o_iald 0 (o_iload 6 (o_igt (o_jmp 2) (o_iconst 0 (o_zret))))))))))))))))))))))))))))))
def B146_2 (orc : Orc) : K := o_iconst 1 (o_zret)
def B146_3 (orc : Orc) : K := o_iload 7 (o_iload 3 (o_iload 4 (o_i2 (fun x y => x + y) (o_ilt (o_aload 0 (o_getR 8 36 (o_iload 1 (o_iload 7 (o_i2 (fun x y => x + y) (o_iald 0 (o_iload 6 (o_ieq (o_iconst 1 (o_jmp 4)) (o_iconst 0 (o_jmp 4)))))))))) (o_iconst 1 (o_zret))))))
def B146_4 (orc : Orc) : K := o_istore 8 (o_iload 5 (o_iconst 1 (o_ieq (o_iload 7 (o_iload 3 (o_iload 4 (o_i2 (fun x y => x + y) (o_iconst 1 (o_i2 (fun x y => x - y) (o_ilt (o_aload 0 (o_getR 8 36 (o_iload 1 (o_iload 7 (o_i2 (fun x y => x + y) (o_iald 0 (o_iload 6 (o_igt (o_iconst 0 (o_zret)) (o_jmp 6))))))))) (o_jmp 5)))))))) (o_jmp 5))))
def B146_5 (orc : Orc) : K := o_iload 8 (o_if0 (o_iconst 0 (o_zret)) (o_jmp 6))
def B146_6 (orc : Orc) : K := o_iinc 7 1 (o_jmp 3)
def P146 (orc : Orc) (b : Nat) : K := match b with
  | 0 => B146_0 orc
  | 1 => B146_1 orc
  | 2 => B146_2 orc
  | 3 => B146_3 orc
  | 4 => B146_4 orc
  | 5 => B146_5 orc
  | 6 => B146_6 orc
  | _ => fun _ _ _ => none
def Q146 (b : Nat) : Nat := match b with
  | 0 => 0
  | 1 => 67
  | 2 => 110
  | 3 => 121
  | 4 => 149
  | 5 => 185
  | 6 => 192
  | _ => 0
/-! 147: TruceWallModel.why(IIIIZ)I -/
def B147_0 (orc : Orc) : K := o_iload 2 (o_ifn (o_iconst 1 (o_iret)) (o_iload 2 (o_aload 0 (o_getR 8 12 (o_iconst 0 (o_iald 0 (o_ilt (o_aload 0 (o_iload 3 (o_vI orc 143 2 8 (o_if0 (o_iconst 1 (o_iret)) (o_aload 0 (o_iload 2 (o_iload 4 (o_vI orc 145 3 8 (o_if0 (o_iconst 1 (o_iret)) (o_aload 0 (o_getR 8 14 (o_iload 2 (o_iald 0 (o_iconst 3 (o_ieq (o_aload 0 (o_iload 3 (o_vI orc 144 2 8 (o_iload 3 (o_ieq (o_iconst 1 (o_iret)) (o_jmp 1)))))) (o_jmp 1)))))))))))))))) (o_iconst 1 (o_iret)))))))))
def B147_1 (orc : Orc) : K := o_iload 5 (o_if0 (o_iload 3 (o_iload 4 (o_i2 (fun x y => x + y) (o_aload 0 (o_getR 8 10 (o_iconst 0 (o_iald 0 (o_igt (o_iconst 3 (o_iret)) (o_iload 3 (o_istore 6 (o_jmp 2))))))))))) (o_iconst 2 (o_iret)))
def B147_2 (orc : Orc) : K := o_iload 6 (o_iload 3 (o_iload 4 (o_i2 (fun x y => x + y) (o_ilt (o_aload 0 (o_getR 8 36 (o_iload 1 (o_iconst 10 (o_i2 (fun x y => x + y) (o_iload 6 (o_i2 (fun x y => x + y) (o_iald 0 (o_ifp (o_iconst 4 (o_iret)) (o_iinc 6 1 (o_jmp 2))))))))))) (o_aload 0 (o_getR 8 14 (o_iload 2 (o_iald 0 (o_iconst 3 (o_ieq (o_aload 0 (o_getR 8 36 (o_iload 1 (o_iconst 10 (o_i2 (fun x y => x + y) (o_aload 0 (o_iload 3 (o_vI orc 144 2 8 (o_i2 (fun x y => x + y) (o_iald 0 (o_ifp (o_iconst 4 (o_iret)) (o_jmp 3)))))))))))) (o_jmp 3)))))))))))
def B147_3 (orc : Orc) : K := o_aload 0 (o_iload 1 (o_iload 2 (o_iload 3 (o_iload 4 (o_vI orc 146 5 8 (o_if0 (o_iconst 5 (o_iret)) (o_aload 0 (o_getR 8 36 (o_iload 1 (o_iload 3 (o_i2 (fun x y => x + y) (o_iald 0 (o_aload 0 (o_getR 8 11 (o_iconst 0 (o_iald 0 (o_ieq (o_jmp 4) (o_aload 0 (o_getR 8 14 (o_iload 2 (o_iald 0 (o_iconst 3 (o_ieq (o_aload 0 (o_getR 8 36 (o_iload 1 (o_aload 0 (o_iload 3 (o_vI orc 144 2 8 (o_i2 (fun x y => x + y) (o_iald 0 (o_aload 0 (o_getR 8 11 (o_iconst 0 (o_iald 0 (o_ieq (o_jmp 4) (o_iconst 0 (o_iret))))))))))))))) (o_iconst 0 (o_iret)))))))))))))))))))))))))
def B147_4 (orc : Orc) : K := o_iconst 6 (o_iret)
def P147 (orc : Orc) (b : Nat) : K := match b with
  | 0 => B147_0 orc
  | 1 => B147_1 orc
  | 2 => B147_2 orc
  | 3 => B147_3 orc
  | 4 => B147_4 orc
  | _ => fun _ _ _ => none
def Q147 (b : Nat) : Nat := match b with
  | 0 => 0
  | 1 => 53
  | 2 => 78
  | 3 => 140
  | 4 => 202
  | _ => 0
/-! 148: TruceWallModel.whyGate(IIZ)I -/
def B148_0 (orc : Orc) : K := o_aload 0 (o_iload 2 (o_vI orc 143 2 8 (o_if0 (o_iconst 1 (o_iret)) (o_iload 3 (o_if0 (o_aload 0 (o_getR 8 36 (o_iload 1 (o_iconst 40 (o_i2 (fun x y => x + y) (o_aload 0 (o_getR 8 36 (o_iload 1 (o_iconst 42 (o_i2 (fun x y => x + y) (o_iald 0 (o_i2 (fun x y => x + y) (o_iald 0 (o_if0 (o_iconst 3 (o_iret)) (o_aload 0 (o_getR 8 36 (o_iload 1 (o_iconst 10 (o_i2 (fun x y => x + y) (o_iload 2 (o_i2 (fun x y => x + y) (o_iald 0 (o_ifp (o_iconst 4 (o_iret)) (o_aload 0 (o_getR 8 36 (o_iload 1 (o_iload 2 (o_i2 (fun x y => x + y) (o_iald 0 (o_ifp (o_iconst 5 (o_iret)) (o_iconst 0 (o_iret)))))))))))))))))))))))))))))))) (o_iconst 2 (o_iret)))))))
def P148 (orc : Orc) (b : Nat) : K := match b with
  | 0 => B148_0 orc
  | _ => fun _ _ _ => none
def Q148 (b : Nat) : Nat := match b with
  | 0 => 0
  | _ => 0
/-! 149: TruceWallModel.nextAct(II)I -/
def B149_0 (orc : Orc) : K := o_iconst 50 (o_aload 0 (o_getR 8 12 (o_iconst 0 (o_iald 0 (o_i2 (fun x y => x * y) (o_istore 3 (o_iload 2 (o_iconst 1 (o_i2 (fun x y => x + y) (o_istore 4 (o_jmp 1)))))))))))
def B149_1 (orc : Orc) : K := o_iload 4 (o_iload 3 (o_iconst 10 (o_i2 (fun x y => x + y) (o_ilt (o_aload 0 (o_iload 4 (o_iload 3 (o_ilt (o_iload 4 (o_iconst 50 (o_i2z (fun x y => x / y) (o_jmp 2)))) (o_iconst (-2) (o_jmp 2)))))) (o_iconst (-1) (o_iret))))))
def B149_2 (orc : Orc) : K := o_putI 8 39 (o_aload 0 (o_iload 4 (o_iload 3 (o_ilt (o_iload 4 (o_iconst 5 (o_i2z (fun x y => x / y) (o_iconst 10 (o_i2z (fun x y => x - x / y * y) (o_jmp 3)))))) (o_iload 4 (o_iload 3 (o_i2 (fun x y => x - y) (o_jmp 3))))))))
def B149_3 (orc : Orc) : K := o_putI 8 40 (o_aload 0 (o_iload 4 (o_iload 3 (o_ilt (o_iload 4 (o_iconst 5 (o_i2z (fun x y => x - x / y * y) (o_jmp 4)))) (o_iconst 0 (o_jmp 4))))))
def B149_4 (orc : Orc) : K := o_putI 8 41 (o_iload 4 (o_iload 3 (o_ilt (o_aload 0 (o_iload 1 (o_aload 0 (o_getI 8 39 (o_aload 0 (o_getI 8 40 (o_aload 0 (o_getI 8 41 (o_iconst 0 (o_vI orc 147 6 8 (o_if0 (o_iload 4 (o_iret)) (o_jmp 5)))))))))))) (o_aload 0 (o_iload 1 (o_aload 0 (o_getI 8 40 (o_iconst 0 (o_vI orc 148 4 8 (o_if0 (o_iload 4 (o_iret)) (o_jmp 5)))))))))))
def B149_5 (orc : Orc) : K := o_iinc 4 1 (o_jmp 1)
def P149 (orc : Orc) (b : Nat) : K := match b with
  | 0 => B149_0 orc
  | 1 => B149_1 orc
  | 2 => B149_2 orc
  | 3 => B149_3 orc
  | 4 => B149_4 orc
  | 5 => B149_5 orc
  | _ => fun _ _ _ => none
def Q149 (b : Nat) : Nat := match b with
  | 0 => 0
  | 1 => 15
  | 2 => 41
  | 3 => 65
  | 4 => 83
  | 5 => 132
  | _ => 0
/-! 150: TruceWallModel.hasAct(I)Z -/
def B150_0 (orc : Orc) : K := o_aload 0 (o_iload 1 (o_iconst (-1) (o_vI orc 149 3 8 (o_ifn (o_iconst 0 (o_zret)) (o_iconst 1 (o_zret))))))
def P150 (orc : Orc) (b : Nat) : K := match b with
  | 0 => B150_0 orc
  | _ => fun _ _ _ => none
def Q150 (b : Nat) : Nat := match b with
  | 0 => 0
  | _ => 0
/-! 151: TruceWallModel.acts(I)I -/
def B151_0 (orc : Orc) : K := o_iconst 0 (o_istore 2 (o_aload 0 (o_iload 1 (o_iconst (-1) (o_vI orc 149 3 8 (o_istore 3 (o_jmp 1)))))))
def B151_1 (orc : Orc) : K := o_iload 3 (o_ifn (o_iload 2 (o_iret)) (o_iinc 2 1 (o_aload 0 (o_iload 1 (o_iload 3 (o_vI orc 149 3 8 (o_istore 3 (o_jmp 1))))))))
def P151 (orc : Orc) (b : Nat) : K := match b with
  | 0 => B151_0 orc
  | 1 => B151_1 orc
  | _ => fun _ _ _ => none
def Q151 (b : Nat) : Nat := match b with
  | 0 => 0
  | 1 => 9
  | _ => 0
/-! 152: TruceWallModel.finds(II)Z -/
def B152_0 (orc : Orc) : K := o_aload 0 (o_iload 1 (o_iconst (-1) (o_vI orc 149 3 8 (o_istore 3 (o_iconst 0 (o_istore 4 (o_jmp 1)))))))
def B152_1 (orc : Orc) : K := o_iload 4 (o_iload 2 (o_ilt (o_iload 3 (o_ifn (o_jmp 2) (o_aload 0 (o_iload 1 (o_iload 3 (o_vI orc 149 3 8 (o_istore 3 (o_iinc 4 1 (o_jmp 1))))))))) (o_jmp 2)))
def B152_2 (orc : Orc) : K := o_iload 2 (o_ifn (o_iconst 0 (o_zret)) (o_iload 3 (o_ifn (o_iconst 0 (o_zret)) (o_iconst 1 (o_zret)))))
def P152 (orc : Orc) (b : Nat) : K := match b with
  | 0 => B152_0 orc
  | 1 => B152_1 orc
  | 2 => B152_2 orc
  | _ => fun _ _ _ => none
def Q152 (b : Nat) : Nat := match b with
  | 0 => 0
  | 1 => 10
  | 2 => 33
  | _ => 0
/-! 153: TruceWallModel.sets(IIII)V -/
def B153_0 (orc : Orc) : K := o_aload 0 (o_getR 8 36 (o_iload 1 (o_iconst 42 (o_i2 (fun x y => x + y) (o_iald 0 (o_istore 5 (o_aload 0 (o_getR 8 14 (o_iload 2 (o_iald 0 (o_istore 6 (o_aload 0 (o_getR 8 36 (o_iload 1 (o_iload 3 (o_i2 (fun x y => x + y) (o_iald 0 (o_istore 7 (o_iconst 0 (o_istore 8 (o_iload 3 (o_istore 9 (o_jmp 1)))))))))))))))))))))))
def B153_1 (orc : Orc) : K := o_iload 9 (o_iload 3 (o_iload 4 (o_i2 (fun x y => x + y) (o_ilt (o_iload 8 (o_iload 7 (o_aload 0 (o_getR 8 36 (o_iload 1 (o_iload 9 (o_i2 (fun x y => x + y) (o_iald 0 (o_i2 (fun x y => x - y) (o_i2 (fun x y => x + y) (o_istore 8 (o_aload 0 (o_getR 8 36 (o_iload 1 (o_iconst 20 (o_i2 (fun x y => x + y) (o_iload 9 (o_i2 (fun x y => x + y) (o_dup2 (o_iald 0 (o_iload 7 (o_aload 0 (o_getR 8 36 (o_iload 1 (o_iload 9 (o_i2 (fun x y => x + y) (o_iald 0 (o_i2 (fun x y => x - y) (o_i2 (fun x y => x + y) (o_iast 0 (fun x => x) (o_aload 0 (o_getR 8 36 (o_iload 1 (o_iload 9 (o_i2 (fun x y => x + y) (o_iload 7 (o_iconst 1 (o_i2 (fun x y => x + y) (o_iast 0 (fun x => x) (o_aload 0 (o_getR 8 36 (o_iload 1 (o_iconst 30 (o_i2 (fun x y => x + y) (o_iload 9 (o_i2 (fun x y => x + y) (o_iload 6 (o_iconst 4 (o_ieq (o_iconst 2 (o_iload 5 (o_i2 (fun x y => x - y) (o_jmp 2)))) (o_iconst 1 (o_iload 5 (o_i2 (fun x y => x + y) (o_jmp 2))))))))))))))))))))))))))))))))))))))))))))))))))))) (o_iload 6 (o_iconst 3 (o_ieq (o_aload 0 (o_getR 8 36 (o_iload 1 (o_aload 0 (o_iload 3 (o_vI orc 144 2 8 (o_i2 (fun x y => x + y) (o_dup2 (o_iald 0 (o_iconst 1 (o_i2 (fun x y => x + y) (o_iast 0 (fun x => x) (o_aload 0 (o_getR 8 36 (o_iload 1 (o_iconst 30 (o_i2 (fun x y => x + y) (o_aload 0 (o_iload 3 (o_vI orc 144 2 8 (o_i2 (fun x y => x + y) (o_iconst 1 (o_iload 5 (o_i2 (fun x y => x + y) (o_iast 0 (fun x => x) (o_jmp 3)))))))))))))))))))))))))) (o_jmp 3))))))))
def B153_2 (orc : Orc) : K := o_iast 0 (fun x => x) (o_iinc 9 1 (o_jmp 1))
def B153_3 (orc : Orc) : K := o_aload 0 (o_getR 8 36 (o_iload 1 (o_iconst 47 (o_i2 (fun x y => x + y) (o_iload 6 (o_iconst 4 (o_ieq (o_iconst 1 (o_iload 5 (o_i2 (fun x y => x - y) (o_jmp 4)))) (o_iload 5 (o_jmp 4)))))))))
def B153_4 (orc : Orc) : K := o_i2 (fun x y => x + y) (o_dup2 (o_iald 0 (o_iload 8 (o_i2 (fun x y => x + y) (o_iast 0 (fun x => x) (o_aload 0 (o_getR 8 34 (o_iconst 1 (o_iload 6 (o_iconst 3 (o_ieq (o_iconst 2 (o_jmp 5)) (o_iload 4 (o_jmp 5)))))))))))))
def B153_5 (orc : Orc) : K := o_iast 0 (fun x => x) (o_aload 0 (o_getR 8 34 (o_iconst 2 (o_iload 7 (o_iast 0 (fun x => x) (o_aload 0 (o_getR 8 34 (o_iconst 3 (o_iload 8 (o_iast 0 (fun x => x) (o_aload 0 (o_getR 8 34 (o_iconst 4 (o_aload 0 (o_getR 8 36 (o_iload 1 (o_iconst 45 (o_i2 (fun x y => x + y) (o_iald 0 (o_iast 0 (fun x => x) (o_aload 0 (o_getR 8 36 (o_iload 1 (o_iconst 46 (o_i2 (fun x y => x + y) (o_dup2 (o_iald 0 (o_aload 0 (o_getR 8 18 (o_iconst 0 (o_iald 0 (o_aload 0 (o_getR 8 17 (o_iconst 0 (o_iald 0 (o_ieq (o_aload 0 (o_getR 8 34 (o_iconst 1 (o_iald 0 (o_jmp 6))))) (o_aload 0 (o_iconst 0 (o_vI orc 127 2 8 (o_jmp 6))))))))))))))))))))))))))))))))))))))))
def B153_6 (orc : Orc) : K := o_i2 (fun x y => x + y) (o_iast 0 (fun x => x) (o_vret))
def P153 (orc : Orc) (b : Nat) : K := match b with
  | 0 => B153_0 orc
  | 1 => B153_1 orc
  | 2 => B153_2 orc
  | 3 => B153_3 orc
  | 4 => B153_4 orc
  | 5 => B153_5 orc
  | 6 => B153_6 orc
  | _ => fun _ _ _ => none
def Q153 (b : Nat) : Nat := match b with
  | 0 => 0
  | 1 => 35
  | 2 => 129
  | 3 => 177
  | 4 => 200
  | 5 => 224
  | 6 => 295
  | _ => 0
/-! 154: TruceWallModel.does(IIII)V -/
def B154_0 (orc : Orc) : K := o_aload 0 (o_getR 8 36 (o_iload 1 (o_iconst 42 (o_i2 (fun x y => x + y) (o_iald 0 (o_istore 5 (o_iload 2 (o_iconst (-2) (o_ieq (o_aload 0 (o_getR 8 36 (o_iload 1 (o_iconst 10 (o_i2 (fun x y => x + y) (o_iload 3 (o_i2 (fun x y => x + y) (o_iconst 1 (o_iload 5 (o_i2 (fun x y => x + y) (o_iast 0 (fun x => x) (o_aload 0 (o_getR 8 36 (o_iload 1 (o_iconst 40 (o_i2 (fun x y => x + y) (o_iload 5 (o_i2 (fun x y => x + y) (o_dup2 (o_iald 0 (o_iconst 1 (o_i2 (fun x y => x - y) (o_iast 0 (fun x => x) (o_jmp 1)))))))))))))))))))))))) (o_aload 0 (o_iload 1 (o_iload 2 (o_iload 3 (o_iload 4 (o_vV orc 153 5 8 (o_jmp 1))))))))))))))))
def B154_1 (orc : Orc) : K := o_aload 0 (o_getR 8 36 (o_iload 1 (o_iconst 45 (o_i2 (fun x y => x + y) (o_dup2 (o_iald 0 (o_iconst 1 (o_i2 (fun x y => x + y) (o_iast 0 (fun x => x) (o_aload 0 (o_getR 8 36 (o_iload 1 (o_iconst 42 (o_i2 (fun x y => x + y) (o_iconst 1 (o_iload 5 (o_i2 (fun x y => x - y) (o_iast 0 (fun x => x) (o_aload 0 (o_iload 1 (o_vV orc 142 2 8 (o_vret))))))))))))))))))))))
def P154 (orc : Orc) (b : Nat) : K := match b with
  | 0 => B154_0 orc
  | 1 => B154_1 orc
  | _ => fun _ _ _ => none
def Q154 (b : Nat) : Nat := match b with
  | 0 => 0
  | 1 => 60
  | _ => 0
/-! 155: TruceWallModel.keeps()V -/
def B155_0 (orc : Orc) : K := o_aload 0 (o_getI 8 38 (o_iconst 60 (o_ieq (o_iconst 0 (o_istore 1 (o_jmp 1))) (o_jmp 2))))
def B155_1 (orc : Orc) : K := o_iload 1 (o_iconst 3776 (o_ilt (o_aload 0 (o_getR 8 37 (o_iload 1 (o_aload 0 (o_getR 8 37 (o_iload 1 (o_iconst 64 (o_i2 (fun x y => x + y) (o_iald 0 (o_iast 0 (fun x => x) (o_iinc 1 1 (o_jmp 1)))))))))))) (o_aload 0 (o_dup (o_getI 8 38 (o_iconst 1 (o_i2 (fun x y => x - y) (o_putI 8 38 (o_jmp 2)))))))))
def B155_2 (orc : Orc) : K := o_iconst 0 (o_istore 1 (o_jmp 3))
def B155_3 (orc : Orc) : K := o_iload 1 (o_iconst 64 (o_ilt (o_aload 0 (o_getR 8 37 (o_iconst 64 (o_aload 0 (o_getI 8 38 (o_i2 (fun x y => x * y) (o_iload 1 (o_i2 (fun x y => x + y) (o_aload 0 (o_getR 8 36 (o_iload 1 (o_iald 0 (o_iast 0 (fun x => x) (o_iinc 1 1 (o_jmp 3))))))))))))))) (o_aload 0 (o_dup (o_getI 8 38 (o_iconst 1 (o_i2 (fun x y => x + y) (o_putI 8 38 (o_vret)))))))))
def P155 (orc : Orc) (b : Nat) : K := match b with
  | 0 => B155_0 orc
  | 1 => B155_1 orc
  | 2 => B155_2 orc
  | 3 => B155_3 orc
  | _ => fun _ _ _ => none
def Q155 (b : Nat) : Nat := match b with
  | 0 => 0
  | 1 => 11
  | 2 => 49
  | 3 => 51
  | _ => 0
/-! 156: TruceWallModel.stone(II)I -/
def B156_0 (orc : Orc) : K := o_aload 0 (o_iconst 0 (o_putI 8 0 (o_iload 1 (o_ifn (o_jmp 1) (o_iload 1 (o_aload 0 (o_getR 8 12 (o_iconst 0 (o_iald 0 (o_ilt (o_iload 2 (o_iconst 0 (o_iconst 1 (o_sI orc 114 3 (o_if0 (o_jmp 1) (o_iload 2 (o_if0 (o_aload 0 (o_getR 8 14 (o_iload 1 (o_iald 0 (o_iret))))) (o_aload 0 (o_getR 8 15 (o_iload 1 (o_iald 0 (o_iret)))))))))))) (o_jmp 1)))))))))))
def B156_1 (orc : Orc) : K := o_iconst (-1) (o_iret)
def P156 (orc : Orc) (b : Nat) : K := match b with
  | 0 => B156_0 orc
  | 1 => B156_1 orc
  | _ => fun _ _ _ => none
def Q156 (b : Nat) : Nat := match b with
  | 0 => 0
  | 1 => 28
  | _ => 0
/-! 157: TruceWallModel.set(III)I -/
def B157_0 (orc : Orc) : K := o_aload 0 (o_iconst 0 (o_putI 8 0 (o_aload 0 (o_iconst 0 (o_iload 1 (o_iload 2 (o_iload 3 (o_aload 0 (o_getR 8 36 (o_iconst 43 (o_iald 0 (o_ifp (o_iconst 1 (o_jmp 1)) (o_iconst 0 (o_jmp 1))))))))))))))
def B157_1 (orc : Orc) : K := o_vI orc 147 6 8 (o_istore 4 (o_iload 4 (o_ifp (o_iload 4 (o_iret)) (o_aload 0 (o_vV orc 155 1 8 (o_aload 0 (o_iconst 0 (o_iload 1 (o_iload 2 (o_iload 3 (o_vV orc 154 5 8 (o_iconst 0 (o_iret)))))))))))))
def P157 (orc : Orc) (b : Nat) : K := match b with
  | 0 => B157_0 orc
  | 1 => B157_1 orc
  | _ => fun _ _ _ => none
def Q157 (b : Nat) : Nat := match b with
  | 0 => 0
  | 1 => 25
  | _ => 0
/-! 158: TruceWallModel.leave(I)I -/
def B158_0 (orc : Orc) : K := o_aload 0 (o_iconst 0 (o_putI 8 0 (o_aload 0 (o_iconst 0 (o_iload 1 (o_aload 0 (o_getR 8 36 (o_iconst 43 (o_iald 0 (o_ifp (o_iconst 1 (o_jmp 1)) (o_iconst 0 (o_jmp 1))))))))))))
def B158_1 (orc : Orc) : K := o_vI orc 148 4 8 (o_istore 2 (o_iload 2 (o_ifp (o_iload 2 (o_iret)) (o_aload 0 (o_vV orc 155 1 8 (o_aload 0 (o_iconst 0 (o_iconst (-2) (o_iload 1 (o_iconst 0 (o_vV orc 154 5 8 (o_iconst 0 (o_iret)))))))))))))
def P158 (orc : Orc) (b : Nat) : K := match b with
  | 0 => B158_0 orc
  | 1 => B158_1 orc
  | _ => fun _ _ _ => none
def Q158 (b : Nat) : Nat := match b with
  | 0 => 0
  | 1 => 23
  | _ => 0
/-! 159: TruceWallModel.fits(III)I -/
def B159_0 (orc : Orc) : K := o_aload 0 (o_iconst 0 (o_putI 8 0 (o_aload 0 (o_iconst 0 (o_iload 1 (o_iload 2 (o_iload 3 (o_aload 0 (o_getR 8 36 (o_iconst 43 (o_iald 0 (o_ifp (o_iconst 1 (o_jmp 1)) (o_iconst 0 (o_jmp 1))))))))))))))
def B159_1 (orc : Orc) : K := o_vI orc 147 6 8 (o_iret)
def P159 (orc : Orc) (b : Nat) : K := match b with
  | 0 => B159_0 orc
  | 1 => B159_1 orc
  | _ => fun _ _ _ => none
def Q159 (b : Nat) : Nat := match b with
  | 0 => 0
  | 1 => 25
  | _ => 0
/-! 160: TruceWallModel.undo()Z -/
def B160_0 (orc : Orc) : K := o_aload 0 (o_iconst 0 (o_putI 8 0 (o_aload 0 (o_getI 8 38 (o_if0 (o_iconst 0 (o_zret)) (o_aload 0 (o_dup (o_getI 8 38 (o_iconst 1 (o_i2 (fun x y => x - y) (o_putI 8 38 (o_iconst 0 (o_istore 1 (o_jmp 1))))))))))))))
def B160_1 (orc : Orc) : K := o_iload 1 (o_iconst 64 (o_ilt (o_aload 0 (o_getR 8 36 (o_iload 1 (o_aload 0 (o_getR 8 37 (o_iconst 64 (o_aload 0 (o_getI 8 38 (o_i2 (fun x y => x * y) (o_iload 1 (o_i2 (fun x y => x + y) (o_iald 0 (o_iast 0 (fun x => x) (o_iinc 1 1 (o_jmp 1))))))))))))))) (o_iconst 1 (o_zret))))
def P160 (orc : Orc) (b : Nat) : K := match b with
  | 0 => B160_0 orc
  | 1 => B160_1 orc
  | _ => fun _ _ _ => none
def Q160 (b : Nat) : Nat := match b with
  | 0 => 0
  | 1 => 26
  | _ => 0
/-! 161: TruceWallModel.column(II)I -/
def B161_0 (orc : Orc) : K := o_aload 0 (o_iconst 0 (o_putI 8 0 (o_aload 0 (o_iload 1 (o_vI orc 143 2 8 (o_if0 (o_iconst (-1) (o_iret)) (o_iload 2 (o_iconst 0 (o_iconst 3 (o_sI orc 114 3 (o_if0 (o_iconst (-1) (o_iret)) (o_iload 2 (o_if0 (o_aload 0 (o_getR 8 36 (o_iload 1 (o_iald 0 (o_iret))))) (o_iload 2 (o_iconst 1 (o_ieq (o_aload 0 (o_getR 8 36 (o_iconst 10 (o_iload 1 (o_i2 (fun x y => x + y) (o_iald 0 (o_iconst 1 (o_i2 (fun x y => x - y) (o_iret))))))))) (o_iload 2 (o_iconst 2 (o_ieq (o_aload 0 (o_getR 8 36 (o_iconst 20 (o_iload 1 (o_i2 (fun x y => x + y) (o_iald 0 (o_iret))))))) (o_aload 0 (o_getR 8 36 (o_iconst 30 (o_iload 1 (o_i2 (fun x y => x + y) (o_iald 0 (o_iconst 1 (o_i2 (fun x y => x - y) (o_iret))))))))))))))))))))))))))))
def P161 (orc : Orc) (b : Nat) : K := match b with
  | 0 => B161_0 orc
  | _ => fun _ _ _ => none
def Q161 (b : Nat) : Nat := match b with
  | 0 => 0
  | _ => 0
/-! 162: TruceWallModel.actsNow()I -/
def B162_0 (orc : Orc) : K := o_aload 0 (o_getR 8 36 (o_iconst 43 (o_iald 0 (o_ifp (o_iconst 0 (o_iret)) (o_aload 0 (o_iconst 0 (o_vI orc 151 2 8 (o_iret))))))))
def P162 (orc : Orc) (b : Nat) : K := match b with
  | 0 => B162_0 orc
  | _ => fun _ _ _ => none
def Q162 (b : Nat) : Nat := match b with
  | 0 => 0
  | _ => 0
/-! 163: TruceWallModel.state(I)I -/
def B163_0 (orc : Orc) : K := o_aload 0 (o_iload 1 (o_iconst 0 (o_iconst 9 (o_sI orc 114 3 (o_if0 (o_iconst 1 (o_jmp 1)) (o_iconst 0 (o_jmp 1)))))))
def B163_1 (orc : Orc) : K := o_putI 8 0 (o_aload 0 (o_getI 8 0 (o_iconst 1 (o_ieq (o_iconst 0 (o_iret)) (o_iload 1 (o_iconst 5 (o_ilt (o_iload 1 (o_if0 (o_aload 0 (o_getR 8 36 (o_iconst 45 (o_iald 0 (o_iret))))) (o_iload 1 (o_iconst 1 (o_ieq (o_aload 0 (o_getR 8 36 (o_iconst 43 (o_iald 0 (o_ifp (o_iconst (-1) (o_iret)) (o_aload 0 (o_getR 8 36 (o_iconst 42 (o_iald 0 (o_iret)))))))))) (o_iload 1 (o_iconst 2 (o_ieq (o_aload 0 (o_getR 8 36 (o_iconst 44 (o_iald 0 (o_iret))))) (o_iload 1 (o_iconst 3 (o_ieq (o_aload 0 (o_getR 8 36 (o_iconst 43 (o_iald 0 (o_iconst 1 (o_i2 (fun x y => x - y) (o_iret))))))) (o_aload 0 (o_getR 8 36 (o_iconst 46 (o_iald 0 (o_iret)))))))))))))))) (o_iload 1 (o_iconst 7 (o_ilt (o_aload 0 (o_getR 8 36 (o_iconst 47 (o_iload 1 (o_i2 (fun x y => x + y) (o_iconst 5 (o_i2 (fun x y => x - y) (o_iald 0 (o_iret))))))))) (o_iload 1 (o_iconst 9 (o_ilt (o_aload 0 (o_getR 8 36 (o_iconst 40 (o_iload 1 (o_i2 (fun x y => x + y) (o_iconst 7 (o_i2 (fun x y => x - y) (o_iald 0 (o_iret))))))))) (o_aload 0 (o_vI orc 162 1 8 (o_iret))))))))))))))))
def P163 (orc : Orc) (b : Nat) : K := match b with
  | 0 => B163_0 orc
  | 1 => B163_1 orc
  | _ => fun _ _ _ => none
def Q163 (b : Nat) : Nat := match b with
  | 0 => 0
  | 1 => 16
  | _ => 0
/-! 164: TruceWallModel.act(II)I -/
def B164_0 (orc : Orc) : K := o_aload 0 (o_iconst 0 (o_putI 8 0 (o_iload 2 (o_iconst 0 (o_iconst 2 (o_sI orc 114 3 (o_if0 (o_iconst (-1) (o_iret)) (o_aload 0 (o_getR 8 36 (o_iconst 43 (o_iald 0 (o_ifp (o_iconst (-1) (o_iret)) (o_aload 0 (o_iconst 0 (o_iload 1 (o_vI orc 152 3 8 (o_if0 (o_iconst (-1) (o_iret)) (o_iload 2 (o_if0 (o_aload 0 (o_getI 8 39 (o_iret))) (o_iload 2 (o_iconst 1 (o_ieq (o_aload 0 (o_getI 8 40 (o_iret))) (o_aload 0 (o_getI 8 41 (o_iret)))))))))))))))))))))))))
def P164 (orc : Orc) (b : Nat) : K := match b with
  | 0 => B164_0 orc
  | _ => fun _ _ _ => none
def Q164 (b : Nat) : Nat := match b with
  | 0 => 0
  | _ => 0
/-! 165: TruceWallModel.isSmall()Z -/
def B165_0 (orc : Orc) : K := o_iconst 1 (o_istore 1 (o_iconst 0 (o_istore 2 (o_jmp 1))))
def B165_1 (orc : Orc) : K := o_iload 2 (o_aload 0 (o_getR 8 10 (o_iconst 0 (o_iald 0 (o_ilt (o_iload 1 (o_iconst 256 (o_igt (o_jmp 2) (o_iload 1 (o_aload 0 (o_getR 8 11 (o_iconst 0 (o_iald 0 (o_iconst 1 (o_i2 (fun x y => x + y) (o_i2 (fun x y => x * y) (o_istore 1 (o_iinc 2 1 (o_jmp 1)))))))))))))) (o_jmp 2))))))
def B165_2 (orc : Orc) : K := o_aload 0 (o_getR 8 10 (o_iconst 0 (o_iald 0 (o_iconst 5 (o_igt (o_iconst 0 (o_zret)) (o_iload 1 (o_iconst 256 (o_igt (o_iconst 0 (o_zret)) (o_iconst 1 (o_zret))))))))))
def P165 (orc : Orc) (b : Nat) : K := match b with
  | 0 => B165_0 orc
  | 1 => B165_1 orc
  | 2 => B165_2 orc
  | _ => fun _ _ _ => none
def Q165 (b : Nat) : Nat := match b with
  | 0 => 0
  | 1 => 4
  | 2 => 38
  | _ => 0
/-! 166: TruceWallModel.wallOf(I)I -/
def B166_0 (orc : Orc) : K := o_iconst 0 (o_istore 2 (o_iconst 0 (o_istore 3 (o_aload 0 (o_getR 8 10 (o_iconst 0 (o_iald 0 (o_iconst 1 (o_i2 (fun x y => x - y) (o_istore 4 (o_jmp 1)))))))))))
def B166_1 (orc : Orc) : K := o_iload 4 (o_ifn (o_iconst 32 (o_iload 2 (o_i2 (fun x y => x * y) (o_iload 3 (o_i2 (fun x y => x + y) (o_iret)))))) (o_iload 2 (o_aload 0 (o_getR 8 11 (o_iconst 0 (o_iald 0 (o_iconst 1 (o_i2 (fun x y => x + y) (o_i2 (fun x y => x * y) (o_aload 0 (o_getR 8 36 (o_iload 1 (o_iload 4 (o_i2 (fun x y => x + y) (o_iald 0 (o_i2 (fun x y => x + y) (o_istore 2 (o_iconst 2 (o_iload 3 (o_i2 (fun x y => x * y) (o_aload 0 (o_getR 8 36 (o_iload 1 (o_iconst 10 (o_i2 (fun x y => x + y) (o_iload 4 (o_i2 (fun x y => x + y) (o_iald 0 (o_ifp (o_iconst 1 (o_jmp 2)) (o_iconst 0 (o_jmp 2)))))))))))))))))))))))))))))))
def B166_2 (orc : Orc) : K := o_i2 (fun x y => x + y) (o_istore 3 (o_iinc 4 (-1) (o_jmp 1)))
def P166 (orc : Orc) (b : Nat) : K := match b with
  | 0 => B166_0 orc
  | 1 => B166_1 orc
  | 2 => B166_2 orc
  | _ => fun _ _ _ => none
def Q166 (b : Nat) : Nat := match b with
  | 0 => 0
  | 1 => 14
  | 2 => 63
  | _ => 0
/-! 167: TruceWallModel.numberOf(I)I -/
def B167_0 (orc : Orc) : K := o_iconst 8 (o_aload 0 (o_iload 1 (o_vI orc 166 2 8 (o_i2 (fun x y => x * y) (o_iconst 4 (o_aload 0 (o_getR 8 36 (o_iload 1 (o_iconst 42 (o_i2 (fun x y => x + y) (o_iald 0 (o_i2 (fun x y => x * y) (o_i2 (fun x y => x + y) (o_iconst 2 (o_aload 0 (o_getR 8 36 (o_iload 1 (o_iconst 40 (o_i2 (fun x y => x + y) (o_iconst 1 (o_i2 (fun x y => x + y) (o_iald 0 (o_i2 (fun x y => x * y) (o_i2 (fun x y => x + y) (o_aload 0 (o_getR 8 36 (o_iload 1 (o_iconst 40 (o_i2 (fun x y => x + y) (o_iald 0 (o_i2 (fun x y => x + y) (o_iret))))))))))))))))))))))))))))))))
def P167 (orc : Orc) (b : Nat) : K := match b with
  | 0 => B167_0 orc
  | _ => fun _ _ _ => none
def Q167 (b : Nat) : Nat := match b with
  | 0 => 0
  | _ => 0
/-! 168: TruceWallModel.laysOut(II)V -/
def B168_0 (orc : Orc) : K := o_iconst 0 (o_istore 3 (o_jmp 1))
def B168_1 (orc : Orc) : K := o_iload 3 (o_iconst 64 (o_ilt (o_aload 0 (o_getR 8 36 (o_iload 1 (o_iload 3 (o_i2 (fun x y => x + y) (o_iconst 0 (o_iast 0 (fun x => x) (o_iinc 3 1 (o_jmp 1))))))))) (o_iload 2 (o_iconst 256 (o_i2z (fun x y => x / y) (o_istore 3 (o_iload 2 (o_iconst 8 (o_i2z (fun x y => x / y) (o_iconst 32 (o_i2z (fun x y => x - x / y * y) (o_istore 4 (o_iconst 0 (o_istore 5 (o_jmp 2)))))))))))))))
def B168_2 (orc : Orc) : K := o_iload 5 (o_aload 0 (o_getR 8 10 (o_iconst 0 (o_iald 0 (o_ilt (o_aload 0 (o_getR 8 36 (o_iload 1 (o_iload 5 (o_i2 (fun x y => x + y) (o_iload 3 (o_aload 0 (o_getR 8 11 (o_iconst 0 (o_iald 0 (o_iconst 1 (o_i2 (fun x y => x + y) (o_i2z (fun x y => x - x / y * y) (o_iast 0 (fun x => x) (o_iload 3 (o_aload 0 (o_getR 8 11 (o_iconst 0 (o_iald 0 (o_iconst 1 (o_i2 (fun x y => x + y) (o_i2z (fun x y => x / y) (o_istore 3 (o_aload 0 (o_getR 8 36 (o_iload 1 (o_iconst 10 (o_i2 (fun x y => x + y) (o_iload 5 (o_i2 (fun x y => x + y) (o_iload 4 (o_iload 5 (o_i2 (fun x y => x >>> (y &&& 31)) (o_iconst 1 (o_i2 (fun x y => x &&& y) (o_iast 0 (fun x => x) (o_iinc 5 1 (o_jmp 2)))))))))))))))))))))))))))))))))))))) (o_aload 0 (o_getR 8 36 (o_iload 1 (o_iconst 42 (o_i2 (fun x y => x + y) (o_iload 2 (o_iconst 4 (o_i2z (fun x y => x / y) (o_iconst 2 (o_i2z (fun x y => x - x / y * y) (o_iast 0 (fun x => x) (o_aload 0 (o_getR 8 36 (o_iload 1 (o_iconst 40 (o_i2 (fun x y => x + y) (o_iconst 1 (o_i2 (fun x y => x + y) (o_iload 2 (o_iconst 2 (o_i2z (fun x y => x / y) (o_iconst 2 (o_i2z (fun x y => x - x / y * y) (o_iast 0 (fun x => x) (o_aload 0 (o_getR 8 36 (o_iload 1 (o_iconst 40 (o_i2 (fun x y => x + y) (o_iload 2 (o_iconst 2 (o_i2z (fun x y => x - x / y * y) (o_iast 0 (fun x => x) (o_aload 0 (o_getR 8 36 (o_iload 1 (o_iconst 45 (o_i2 (fun x y => x + y) (o_aload 0 (o_iload 1 (o_vI orc 166 2 8 (o_if0 (o_iconst 0 (o_jmp 3)) (o_iconst 1 (o_jmp 3)))))))))))))))))))))))))))))))))))))))))))))))))
def B168_3 (orc : Orc) : K := o_iast 0 (fun x => x) (o_aload 0 (o_iload 1 (o_vV orc 142 2 8 (o_vret))))
def P168 (orc : Orc) (b : Nat) : K := match b with
  | 0 => B168_0 orc
  | 1 => B168_1 orc
  | 2 => B168_2 orc
  | 3 => B168_3 orc
  | _ => fun _ _ _ => none
def Q168 (b : Nat) : Nat := match b with
  | 0 => 0
  | 1 => 2
  | 2 => 41
  | 3 => 170
  | _ => 0
/-! 169: TruceWallModel.copies(II)V -/
def B169_0 (orc : Orc) : K := o_iconst 0 (o_istore 3 (o_jmp 1))
def B169_1 (orc : Orc) : K := o_iload 3 (o_iconst 64 (o_ilt (o_aload 0 (o_getR 8 36 (o_iload 2 (o_iload 3 (o_i2 (fun x y => x + y) (o_aload 0 (o_getR 8 36 (o_iload 1 (o_iload 3 (o_i2 (fun x y => x + y) (o_iald 0 (o_iast 0 (fun x => x) (o_iinc 3 1 (o_jmp 1)))))))))))))) (o_vret)))
def P169 (orc : Orc) (b : Nat) : K := match b with
  | 0 => B169_0 orc
  | 1 => B169_1 orc
  | _ => fun _ _ _ => none
def Q169 (b : Nat) : Nat := match b with
  | 0 => 0
  | 1 => 2
  | _ => 0
/-! 170: TruceWallModel.knows()V -/
def B170_0 (orc : Orc) : K := o_aload 0 (o_getI 8 44 (o_if0 (o_aload 0 (o_iconst 1 (o_putZ 8 44 (o_iconst 0 (o_istore 1 (o_jmp 1)))))) (o_vret)))
def B170_1 (orc : Orc) : K := o_iload 1 (o_iconst 65536 (o_ilt (o_aload 0 (o_getR 8 42 (o_iload 1 (o_iconst 0 (o_iast 3 (fun x => vp_nar .byte x) (o_iinc 1 1 (o_jmp 1))))))) (o_vret)))
def P170 (orc : Orc) (b : Nat) : K := match b with
  | 0 => B170_0 orc
  | 1 => B170_1 orc
  | _ => fun _ _ _ => none
def Q170 (b : Nat) : Nat := match b with
  | 0 => 0
  | 1 => 15
  | _ => 0
/-! 171: TruceWallModel.isBetter(IIIII)Z -/
def B171_0 (orc : Orc) : K := o_iload 1 (o_iload 3 (o_ieq (o_iload 1 (o_iconst 1 (o_iload 0 (o_i2 (fun x y => x + y) (o_ieq (o_iload 2 (o_iload 4 (o_igt (o_iconst 1 (o_zret)) (o_iconst 0 (o_zret))))) (o_iload 2 (o_iload 4 (o_ilt (o_iconst 1 (o_zret)) (o_iconst 0 (o_zret)))))))))) (o_iload 3 (o_iconst 1 (o_iload 0 (o_i2 (fun x y => x + y) (o_ieq (o_iconst 1 (o_zret)) (o_iconst 0 (o_zret)))))))))
def P171 (orc : Orc) (b : Nat) : K := match b with
  | 0 => B171_0 orc
  | _ => fun _ _ _ => none
def Q171 (b : Nat) : Nat := match b with
  | 0 => 0
  | _ => 0
/-! 172: TruceWallModel.solves(I)I -/
def B172_0 (orc : Orc) : K := o_aload 0 (o_iload 1 (o_vI orc 167 2 8 (o_istore 2 (o_aload 0 (o_getR 8 42 (o_iload 2 (o_iald 3 (o_ifp (o_iload 2 (o_iret)) (o_aload 0 (o_getR 8 36 (o_iload 1 (o_iconst 43 (o_i2 (fun x y => x + y) (o_iald 0 (o_istore 3 (o_iconst 0 (o_istore 4 (o_iload 3 (o_ifp (o_iconst 1 (o_jmp 1)) (o_iconst 0 (o_jmp 1)))))))))))))))))))))
def B172_1 (orc : Orc) : K := o_istore 5 (o_iload 5 (o_if0 (o_aload 0 (o_iload 1 (o_iconst (-1) (o_vI orc 149 3 8 (o_jmp 2))))) (o_iconst (-1) (o_jmp 2))))
def B172_2 (orc : Orc) : K := o_istore 6 (o_jmp 3)
def B172_3 (orc : Orc) : K := o_iload 6 (o_ifn (o_aload 0 (o_getR 8 42 (o_iload 2 (o_iload 3 (o_i1 (fun x => x.toInt8.toInt32) (o_iast 3 (fun x => vp_nar .byte x) (o_aload 0 (o_getR 8 43 (o_iload 2 (o_iload 4 (o_i1 (fun x => x.toInt8.toInt32) (o_iast 3 (fun x => vp_nar .byte x) (o_iload 2 (o_iret)))))))))))))) (o_iload 1 (o_iconst 64 (o_i2 (fun x y => x + y) (o_istore 7 (o_aload 0 (o_iload 1 (o_iload 7 (o_vV orc 169 3 8 (o_aload 0 (o_iload 7 (o_aload 0 (o_getI 8 39 (o_aload 0 (o_getI 8 40 (o_aload 0 (o_getI 8 41 (o_vV orc 154 5 8 (o_aload 0 (o_iload 7 (o_vI orc 172 2 8 (o_istore 8 (o_iload 5 (o_if0 (o_jmp 4) (o_aload 0 (o_getR 8 36 (o_iload 1 (o_iconst 42 (o_i2 (fun x y => x + y) (o_iald 0 (o_aload 0 (o_getR 8 42 (o_iload 8 (o_iald 3 (o_aload 0 (o_getR 8 43 (o_iload 8 (o_iald 3 (o_iconst 1 (o_i2 (fun x y => x + y) (o_iload 3 (o_iload 4 (o_sI orc 171 5 (o_if0 (o_jmp 5) (o_jmp 4)))))))))))))))))))))))))))))))))))))))))))))
def B172_4 (orc : Orc) : K := o_iconst 1 (o_istore 5 (o_aload 0 (o_getR 8 42 (o_iload 8 (o_iald 3 (o_istore 3 (o_aload 0 (o_getR 8 43 (o_iload 8 (o_iald 3 (o_iconst 1 (o_i2 (fun x y => x + y) (o_istore 4 (o_jmp 5))))))))))))))
def B172_5 (orc : Orc) : K := o_aload 0 (o_iload 1 (o_iload 6 (o_vI orc 149 3 8 (o_istore 6 (o_jmp 3)))))
def P172 (orc : Orc) (b : Nat) : K := match b with
  | 0 => B172_0 orc
  | 1 => B172_1 orc
  | 2 => B172_2 orc
  | 3 => B172_3 orc
  | 4 => B172_4 orc
  | 5 => B172_5 orc
  | _ => fun _ _ _ => none
def Q172 (b : Nat) : Nat := match b with
  | 0 => 0
  | 1 => 39
  | 2 => 56
  | 3 => 58
  | 4 => 144
  | 5 => 166
  | _ => 0
/-! 173: TruceWallModel.now()I -/
def B173_0 (orc : Orc) : K := o_aload 0 (o_vV orc 170 1 8 (o_aload 0 (o_iconst 0 (o_iconst 64 (o_vV orc 169 3 8 (o_aload 0 (o_iconst 64 (o_vI orc 172 2 8 (o_iret)))))))))
def P173 (orc : Orc) (b : Nat) : K := match b with
  | 0 => B173_0 orc
  | _ => fun _ _ _ => none
def Q173 (b : Nat) : Nat := match b with
  | 0 => 0
  | _ => 0
/-! 174: TruceWallModel.pays()I -/
def B174_0 (orc : Orc) : K := o_aload 0 (o_iconst 0 (o_putI 8 0 (o_aload 0 (o_vI orc 165 1 8 (o_if0 (o_iconst (-1) (o_iret)) (o_aload 0 (o_getR 8 42 (o_aload 0 (o_vI orc 173 1 8 (o_iald 3 (o_iconst 1 (o_i2 (fun x y => x - y) (o_iret)))))))))))))
def P174 (orc : Orc) (b : Nat) : K := match b with
  | 0 => B174_0 orc
  | _ => fun _ _ _ => none
def Q174 (b : Nat) : Nat := match b with
  | 0 => 0
  | _ => 0
/-! 175: TruceWallModel.days()I -/
def B175_0 (orc : Orc) : K := o_aload 0 (o_iconst 0 (o_putI 8 0 (o_aload 0 (o_vI orc 165 1 8 (o_if0 (o_iconst (-1) (o_iret)) (o_aload 0 (o_getR 8 43 (o_aload 0 (o_vI orc 173 1 8 (o_iald 3 (o_iret)))))))))))
def P175 (orc : Orc) (b : Nat) : K := match b with
  | 0 => B175_0 orc
  | _ => fun _ _ _ => none
def Q175 (b : Nat) : Nat := match b with
  | 0 => 0
  | _ => 0
/-! 176: TruceWallModel.behind(I)I -/
def B176_0 (orc : Orc) : K := o_aload 0 (o_vV orc 170 1 8 (o_aload 0 (o_getR 8 36 (o_iconst 43 (o_iald 0 (o_ifp (o_iconst (-1) (o_iret)) (o_aload 0 (o_iconst 0 (o_iload 1 (o_vI orc 152 3 8 (o_if0 (o_iconst (-1) (o_iret)) (o_aload 0 (o_iconst 0 (o_iconst 64 (o_vV orc 169 3 8 (o_aload 0 (o_iconst 64 (o_aload 0 (o_getI 8 39 (o_aload 0 (o_getI 8 40 (o_aload 0 (o_getI 8 41 (o_vV orc 154 5 8 (o_aload 0 (o_iconst 64 (o_vI orc 172 2 8 (o_iret))))))))))))))))))))))))))))
def P176 (orc : Orc) (b : Nat) : K := match b with
  | 0 => B176_0 orc
  | _ => fun _ _ _ => none
def Q176 (b : Nat) : Nat := match b with
  | 0 => 0
  | _ => 0
/-! 177: TruceWallModel.best()I -/
def B177_0 (orc : Orc) : K := o_aload 0 (o_iconst 0 (o_putI 8 0 (o_aload 0 (o_vI orc 165 1 8 (o_if0 (o_iconst (-1) (o_iret)) (o_aload 0 (o_getR 8 36 (o_iconst 43 (o_iald 0 (o_ifp (o_iconst (-1) (o_iret)) (o_aload 0 (o_vI orc 173 1 8 (o_istore 1 (o_iconst 0 (o_istore 2 (o_jmp 1))))))))))))))))
def B177_1 (orc : Orc) : K := o_aload 0 (o_iload 2 (o_vI orc 176 2 8 (o_istore 3 (o_aload 0 (o_getR 8 42 (o_iload 3 (o_iald 3 (o_aload 0 (o_getR 8 42 (o_iload 1 (o_iald 3 (o_ieq (o_aload 0 (o_getR 8 43 (o_iload 3 (o_iald 3 (o_iconst 1 (o_i2 (fun x y => x + y) (o_aload 0 (o_getR 8 43 (o_iload 1 (o_iald 3 (o_ieq (o_iload 2 (o_iret)) (o_jmp 2)))))))))))) (o_jmp 2)))))))))))))
def B177_2 (orc : Orc) : K := o_iinc 2 1 (o_jmp 1)
def P177 (orc : Orc) (b : Nat) : K := match b with
  | 0 => B177_0 orc
  | 1 => B177_1 orc
  | 2 => B177_2 orc
  | _ => fun _ _ _ => none
def Q177 (b : Nat) : Nat := match b with
  | 0 => 0
  | 1 => 31
  | 2 => 71
  | _ => 0
/-! 178: TruceWallModel.holds(I)I -/
def B178_0 (orc : Orc) : K := o_aload 0 (o_iconst 0 (o_putI 8 0 (o_aload 0 (o_vI orc 165 1 8 (o_if0 (o_iconst (-1) (o_iret)) (o_aload 0 (o_iload 1 (o_vI orc 176 2 8 (o_istore 2 (o_iload 2 (o_ifn (o_iconst (-1) (o_iret)) (o_aload 0 (o_getR 8 43 (o_iload 2 (o_iald 3 (o_iconst 1 (o_i2 (fun x y => x + y) (o_iret))))))))))))))))))
def P178 (orc : Orc) (b : Nat) : K := match b with
  | 0 => B178_0 orc
  | _ => fun _ _ _ => none
def Q178 (b : Nat) : Nat := match b with
  | 0 => 0
  | _ => 0
/-! 179: TruceWallModel.ruled(II)I -/
def B179_0 (orc : Orc) : K := o_iconst (-1) (o_istore 3 (o_iconst 0 (o_istore 4 (o_aload 0 (o_iload 1 (o_iconst (-1) (o_vI orc 149 3 8 (o_istore 5 (o_jmp 1)))))))))
def B179_1 (orc : Orc) : K := o_iload 5 (o_ifn (o_iload 3 (o_iret)) (o_aload 0 (o_getR 8 36 (o_iload 1 (o_aload 0 (o_getI 8 40 (o_i2 (fun x y => x + y) (o_iald 0 (o_istore 6 (o_iload 3 (o_ifn (o_jmp 2) (o_iload 2 (o_iconst 1 (o_ieq (o_jmp 2) (o_iload 2 (o_if0 (o_jmp 3) (o_iload 6 (o_iload 4 (o_ilt (o_jmp 2) (o_jmp 3))))))))))))))))))))
def B179_2 (orc : Orc) : K := o_iload 5 (o_istore 3 (o_iload 6 (o_istore 4 (o_jmp 3))))
def B179_3 (orc : Orc) : K := o_aload 0 (o_iload 1 (o_iload 5 (o_vI orc 149 3 8 (o_istore 5 (o_jmp 1)))))
def P179 (orc : Orc) (b : Nat) : K := match b with
  | 0 => B179_0 orc
  | 1 => B179_1 orc
  | 2 => B179_2 orc
  | 3 => B179_3 orc
  | _ => fun _ _ _ => none
def Q179 (b : Nat) : Nat := match b with
  | 0 => 0
  | 1 => 13
  | 2 => 54
  | 3 => 61
  | _ => 0
/-! 180: TruceWallModel.masons(III)I -/
def B180_0 (orc : Orc) : K := o_aload 0 (o_iload 1 (o_vI orc 167 2 8 (o_istore 4 (o_aload 0 (o_getR 8 45 (o_iload 4 (o_iald 3 (o_ifp (o_aload 0 (o_getR 8 45 (o_iload 4 (o_iald 3 (o_iret))))) (o_aload 0 (o_getR 8 36 (o_iload 1 (o_iconst 43 (o_i2 (fun x y => x + y) (o_iald 0 (o_istore 5 (o_aload 0 (o_getR 8 36 (o_iload 1 (o_iconst 42 (o_i2 (fun x y => x + y) (o_iald 0 (o_iload 2 (o_ieq (o_iconst 1 (o_jmp 1)) (o_iconst 0 (o_jmp 1)))))))))))))))))))))))))
def B180_1 (orc : Orc) : K := o_istore 6 (o_iload 6 (o_if0 (o_jmp 2) (o_iload 5 (o_if0 (o_aload 0 (o_iload 1 (o_iload 3 (o_vI orc 179 3 8 (o_jmp 3))))) (o_jmp 2)))))
def B180_2 (orc : Orc) : K := o_iconst (-1) (o_jmp 3)
def B180_3 (orc : Orc) : K := o_istore 7 (o_iload 5 (o_ifp (o_iconst (-1) (o_jmp 4)) (o_iload 6 (o_if0 (o_aload 0 (o_iload 1 (o_iconst (-1) (o_vI orc 149 3 8 (o_jmp 4))))) (o_aload 0 (o_iload 1 (o_iload 7 (o_iconst 1 (o_i2 (fun x y => x - y) (o_vI orc 149 3 8 (o_jmp 4)))))))))))
def B180_4 (orc : Orc) : K := o_istore 8 (o_jmp 5)
def B180_5 (orc : Orc) : K := o_iload 8 (o_ifn (o_jmp 7) (o_iload 1 (o_iconst 64 (o_i2 (fun x y => x + y) (o_istore 9 (o_aload 0 (o_iload 1 (o_iload 9 (o_vV orc 169 3 8 (o_aload 0 (o_iload 9 (o_aload 0 (o_getI 8 39 (o_aload 0 (o_getI 8 40 (o_aload 0 (o_getI 8 41 (o_vV orc 154 5 8 (o_aload 0 (o_iload 9 (o_iload 2 (o_iload 3 (o_vI orc 180 4 8 (o_istore 10 (o_iload 5 (o_iconst 1 (o_iload 2 (o_i2 (fun x y => x + y) (o_ieq (o_iload 5 (o_jmp 6)) (o_iload 10 (o_jmp 6)))))))))))))))))))))))))))))))
def B180_6 (orc : Orc) : K := o_istore 5 (o_iload 6 (o_if0 (o_iload 5 (o_iconst 1 (o_iload 2 (o_i2 (fun x y => x + y) (o_ieq (o_jmp 7) (o_aload 0 (o_iload 1 (o_iload 8 (o_vI orc 149 3 8 (o_istore 8 (o_jmp 5))))))))))) (o_jmp 7)))
def B180_7 (orc : Orc) : K := o_aload 0 (o_getR 8 45 (o_iload 4 (o_iload 5 (o_i1 (fun x => x.toInt8.toInt32) (o_iast 3 (fun x => vp_nar .byte x) (o_iload 5 (o_iret)))))))
def P180 (orc : Orc) (b : Nat) : K := match b with
  | 0 => B180_0 orc
  | 1 => B180_1 orc
  | 2 => B180_2 orc
  | 3 => B180_3 orc
  | 4 => B180_4 orc
  | 5 => B180_5 orc
  | 6 => B180_6 orc
  | 7 => B180_7 orc
  | _ => fun _ _ _ => none
def Q180 (b : Nat) : Nat := match b with
  | 0 => 0
  | 1 => 54
  | 2 => 75
  | 3 => 76
  | 4 => 110
  | 5 => 112
  | 6 => 173
  | 7 => 203
  | _ => 0
/-! 181: TruceWallModel.mason(II)I -/
def B181_0 (orc : Orc) : K := o_aload 0 (o_iconst 0 (o_putI 8 0 (o_iload 1 (o_iconst 0 (o_iconst 1 (o_sI orc 114 3 (o_if0 (o_iconst (-1) (o_iret)) (o_iload 2 (o_iconst 0 (o_iconst 2 (o_sI orc 114 3 (o_if0 (o_iconst (-1) (o_iret)) (o_aload 0 (o_vI orc 165 1 8 (o_if0 (o_iconst (-1) (o_iret)) (o_iconst 0 (o_istore 3 (o_jmp 1))))))))))))))))))
def B181_1 (orc : Orc) : K := o_iload 3 (o_iconst 65536 (o_ilt (o_aload 0 (o_getR 8 45 (o_iload 3 (o_iconst 0 (o_iast 3 (fun x => vp_nar .byte x) (o_iinc 3 1 (o_jmp 1))))))) (o_aload 0 (o_iconst 0 (o_iconst 64 (o_vV orc 169 3 8 (o_aload 0 (o_iconst 64 (o_iload 1 (o_iload 2 (o_vI orc 180 4 8 (o_iconst 1 (o_i2 (fun x y => x - y) (o_iret))))))))))))))
def P181 (orc : Orc) (b : Nat) : K := match b with
  | 0 => B181_0 orc
  | 1 => B181_1 orc
  | _ => fun _ _ _ => none
def Q181 (b : Nat) : Nat := match b with
  | 0 => 0
  | 1 => 34
  | _ => 0
/-! 182: TruceWallModel.goesOn(Z)V -/
def B182_0 (orc : Orc) : K := o_iconst 0 (o_istore 2 (o_jmp 1))
def B182_1 (orc : Orc) : K := o_iload 2 (o_iconst 65536 (o_ilt (o_aload 0 (o_getR 8 47 (o_iload 2 (o_iconst 0 (o_iast 0 (fun x => x) (o_iinc 2 1 (o_jmp 1))))))) (o_iconst 0 (o_istore 2 (o_jmp 2)))))
def B182_2 (orc : Orc) : K := o_iload 2 (o_iconst 65536 (o_ilt (o_aload 0 (o_getR 8 46 (o_iload 2 (o_iald 0 (o_if0 (o_jmp 5) (o_aload 0 (o_iconst 64 (o_iload 2 (o_vV orc 168 3 8 (o_aload 0 (o_getR 8 36 (o_iconst 107 (o_iald 0 (o_ifp (o_jmp 5) (o_aload 0 (o_iconst 64 (o_iconst (-1) (o_vI orc 149 3 8 (o_istore 3 (o_jmp 3)))))))))))))))))))) (o_iconst 0 (o_istore 2 (o_jmp 6)))))
def B182_3 (orc : Orc) : K := o_iload 3 (o_ifn (o_jmp 5) (o_aload 0 (o_iconst 64 (o_iconst 128 (o_vV orc 169 3 8 (o_aload 0 (o_iconst 128 (o_aload 0 (o_getI 8 39 (o_aload 0 (o_getI 8 40 (o_aload 0 (o_getI 8 41 (o_vV orc 154 5 8 (o_aload 0 (o_iconst 128 (o_vI orc 167 2 8 (o_istore 4 (o_aload 0 (o_getR 8 47 (o_iload 4 (o_iload 1 (o_if0 (o_iconst 1 (o_jmp 4)) (o_aload 0 (o_getR 8 47 (o_iload 4 (o_iald 0 (o_i2l (o_aload 0 (o_getR 8 46 (o_iload 2 (o_iald 0 (o_i2l (o_l2 (fun x y => x + y) (o_lconst 1000000007 (o_l2z (fun x y => x - x / y * y) (o_l2i (o_jmp 4))))))))))))))))))))))))))))))))))))))
def B182_4 (orc : Orc) : K := o_iast 0 (fun x => x) (o_aload 0 (o_iconst 64 (o_iload 3 (o_vI orc 149 3 8 (o_istore 3 (o_jmp 3))))))
def B182_5 (orc : Orc) : K := o_iinc 2 1 (o_jmp 2)
def B182_6 (orc : Orc) : K := o_iload 2 (o_iconst 65536 (o_ilt (o_aload 0 (o_getR 8 46 (o_iload 2 (o_aload 0 (o_getR 8 47 (o_iload 2 (o_iald 0 (o_iast 0 (fun x => x) (o_iinc 2 1 (o_jmp 6)))))))))) (o_vret)))
def P182 (orc : Orc) (b : Nat) : K := match b with
  | 0 => B182_0 orc
  | 1 => B182_1 orc
  | 2 => B182_2 orc
  | 3 => B182_3 orc
  | 4 => B182_4 orc
  | 5 => B182_5 orc
  | 6 => B182_6 orc
  | _ => fun _ _ _ => none
def Q182 (b : Nat) : Nat := match b with
  | 0 => 0
  | 1 => 2
  | 2 => 23
  | 3 => 69
  | 4 => 145
  | 5 => 157
  | 6 => 165
  | _ => 0
/-! 183: TruceWallModel.reached(I)I -/
def B183_0 (orc : Orc) : K := o_aload 0 (o_iconst 0 (o_putI 8 0 (o_iload 1 (o_iconst 0 (o_iconst 30 (o_sI orc 114 3 (o_if0 (o_iconst (-1) (o_iret)) (o_aload 0 (o_vI orc 165 1 8 (o_if0 (o_iconst (-1) (o_iret)) (o_iconst 0 (o_istore 2 (o_jmp 1)))))))))))))
def B183_1 (orc : Orc) : K := o_iload 2 (o_iconst 65536 (o_ilt (o_aload 0 (o_getR 8 46 (o_iload 2 (o_iconst 0 (o_iast 0 (fun x => x) (o_iinc 2 1 (o_jmp 1))))))) (o_aload 0 (o_getR 8 46 (o_aload 0 (o_iconst 0 (o_vI orc 167 2 8 (o_iconst 1 (o_iast 0 (fun x => x) (o_iconst 0 (o_istore 2 (o_jmp 2))))))))))))
def B183_2 (orc : Orc) : K := o_iload 2 (o_iload 1 (o_ilt (o_aload 0 (o_iconst 0 (o_vV orc 182 2 8 (o_iinc 2 1 (o_jmp 2))))) (o_iconst 0 (o_istore 2 (o_iconst 0 (o_istore 3 (o_jmp 3)))))))
def B183_3 (orc : Orc) : K := o_iload 3 (o_iconst 8192 (o_ilt (o_iconst 0 (o_istore 4 (o_iconst 0 (o_istore 5 (o_jmp 4))))) (o_iload 2 (o_iret))))
def B183_4 (orc : Orc) : K := o_iload 5 (o_iconst 8 (o_ilt (o_iload 4 (o_if0 (o_aload 0 (o_getR 8 46 (o_iconst 8 (o_iload 3 (o_i2 (fun x y => x * y) (o_iload 5 (o_i2 (fun x y => x + y) (o_iald 0 (o_ifp (o_jmp 5) (o_iconst 0 (o_jmp 6))))))))))) (o_jmp 5))) (o_iload 2 (o_iload 4 (o_if0 (o_iconst 0 (o_jmp 7)) (o_iconst 1 (o_jmp 7)))))))
def B183_5 (orc : Orc) : K := o_iconst 1 (o_jmp 6)
def B183_6 (orc : Orc) : K := o_istore 4 (o_iinc 5 1 (o_jmp 4))
def B183_7 (orc : Orc) : K := o_i2 (fun x y => x + y) (o_istore 2 (o_iinc 3 1 (o_jmp 3)))
def P183 (orc : Orc) (b : Nat) : K := match b with
  | 0 => B183_0 orc
  | 1 => B183_1 orc
  | 2 => B183_2 orc
  | 3 => B183_3 orc
  | 4 => B183_4 orc
  | 5 => B183_5 orc
  | 6 => B183_6 orc
  | 7 => B183_7 orc
  | _ => fun _ _ _ => none
def Q183 (b : Nat) : Nat := match b with
  | 0 => 0
  | 1 => 26
  | 2 => 58
  | 3 => 78
  | 4 => 91
  | 5 => 118
  | 6 => 123
  | 7 => 142
  | _ => 0
/-! 184: TruceWallModel.histories(I)I -/
def B184_0 (orc : Orc) : K := o_aload 0 (o_iconst 0 (o_putI 8 0 (o_iload 1 (o_iconst 0 (o_iconst 30 (o_sI orc 114 3 (o_if0 (o_iconst (-1) (o_iret)) (o_aload 0 (o_vI orc 165 1 8 (o_if0 (o_iconst (-1) (o_iret)) (o_iconst 0 (o_istore 2 (o_jmp 1)))))))))))))
def B184_1 (orc : Orc) : K := o_iload 2 (o_iconst 65536 (o_ilt (o_aload 0 (o_getR 8 46 (o_iload 2 (o_iconst 0 (o_iast 0 (fun x => x) (o_iinc 2 1 (o_jmp 1))))))) (o_aload 0 (o_iconst 64 (o_vV orc 140 2 8 (o_aload 0 (o_getR 8 46 (o_aload 0 (o_iconst 64 (o_vI orc 167 2 8 (o_iconst 1 (o_iast 0 (fun x => x) (o_iconst 0 (o_istore 2 (o_jmp 2)))))))))))))))
def B184_2 (orc : Orc) : K := o_iload 2 (o_iload 1 (o_ilt (o_aload 0 (o_iconst 1 (o_vV orc 182 2 8 (o_iinc 2 1 (o_jmp 2))))) (o_lconst 0 (o_lstore 2 (o_iconst 0 (o_istore 4 (o_jmp 3)))))))
def B184_3 (orc : Orc) : K := o_iload 4 (o_iconst 8 (o_ilt (o_lload 2 (o_aload 0 (o_getR 8 46 (o_iconst 8 (o_aload 0 (o_iconst 0 (o_vI orc 166 2 8 (o_i2 (fun x y => x * y) (o_iload 4 (o_i2 (fun x y => x + y) (o_iald 0 (o_i2l (o_l2 (fun x y => x + y) (o_lstore 2 (o_iinc 4 1 (o_jmp 3)))))))))))))))) (o_lload 2 (o_lconst 1000000007 (o_l2z (fun x y => x - x / y * y) (o_l2i (o_iret)))))))
def P184 (orc : Orc) (b : Nat) : K := match b with
  | 0 => B184_0 orc
  | 1 => B184_1 orc
  | 2 => B184_2 orc
  | 3 => B184_3 orc
  | _ => fun _ _ _ => none
def Q184 (b : Nat) : Nat := match b with
  | 0 => 0
  | 1 => 26
  | 2 => 65
  | 3 => 86
  | _ => 0
/-! 185: TruceWallModel.draws(I)I -/
def B185_0 (orc : Orc) : K := o_aload 0 (o_aload 0 (o_getL 8 48 (o_lconst 1103515245 (o_l2 (fun x y => x * y) (o_lconst 12345 (o_l2 (fun x y => x + y) (o_lconst 2147483648 (o_l2z (fun x y => x - x / y * y) (o_putL 8 48 (o_aload 0 (o_getL 8 48 (o_lconst 65536 (o_l2z (fun x y => x / y) (o_iload 1 (o_i2l (o_l2z (fun x y => x - x / y * y) (o_l2i (o_iret))))))))))))))))))
def P185 (orc : Orc) (b : Nat) : K := match b with
  | 0 => B185_0 orc
  | _ => fun _ _ _ => none
def Q185 (b : Nat) : Nat := match b with
  | 0 => 0
  | _ => 0
/-! 186: TruceWallModel.lots(III)I -/
def B186_0 (orc : Orc) : K := o_aload 0 (o_iconst 0 (o_putI 8 0 (o_iload 1 (o_iconst 0 (o_iconst 9999 (o_sI orc 114 3 (o_if0 (o_iconst (-1) (o_iret)) (o_iload 2 (o_iconst 1 (o_iconst 100 (o_sI orc 114 3 (o_if0 (o_iconst (-1) (o_iret)) (o_iload 3 (o_iconst 0 (o_iconst 1 (o_sI orc 114 3 (o_if0 (o_iconst (-1) (o_iret)) (o_aload 0 (o_iload 1 (o_i2l (o_putL 8 48 (o_iconst 0 (o_istore 4 (o_iconst 0 (o_istore 5 (o_iconst 0 (o_istore 6 (o_jmp 1))))))))))))))))))))))))))))
def B186_1 (orc : Orc) : K := o_iload 6 (o_iload 2 (o_ilt (o_aload 0 (o_iconst 0 (o_iconst 64 (o_vV orc 169 3 8 (o_jmp 2))))) (o_iload 3 (o_if0 (o_iload 4 (o_iret)) (o_iload 5 (o_iret))))))
def B186_2 (orc : Orc) : K := o_aload 0 (o_getR 8 36 (o_iconst 107 (o_iald 0 (o_if0 (o_aload 0 (o_iconst 64 (o_aload 0 (o_aload 0 (o_iconst 64 (o_vI orc 151 2 8 (o_vI orc 185 2 8 (o_vI orc 152 3 8 (o_pop (o_aload 0 (o_iconst 64 (o_aload 0 (o_getI 8 39 (o_aload 0 (o_getI 8 40 (o_aload 0 (o_getI 8 41 (o_vV orc 154 5 8 (o_iinc 5 1 (o_jmp 2)))))))))))))))))))) (o_iload 4 (o_aload 0 (o_getR 8 36 (o_iconst 107 (o_iald 0 (o_iconst 1 (o_ieq (o_iconst 1 (o_jmp 3)) (o_iconst 0 (o_jmp 3)))))))))))))
def B186_3 (orc : Orc) : K := o_i2 (fun x y => x + y) (o_istore 4 (o_iinc 6 1 (o_jmp 1)))
def P186 (orc : Orc) (b : Nat) : K := match b with
  | 0 => B186_0 orc
  | 1 => B186_1 orc
  | 2 => B186_2 orc
  | 3 => B186_3 orc
  | _ => fun _ _ _ => none
def Q186 (b : Nat) : Nat := match b with
  | 0 => 0
  | 1 => 52
  | 2 => 65
  | 3 => 134
  | _ => 0
/-! 187: TruceWallModel.mark(IZ)Z -/
def B187_0 (orc : Orc) : K := o_aload 0 (o_iconst 0 (o_putI 8 0 (o_iload 1 (o_iconst 0 (o_iconst 3 (o_sI orc 114 3 (o_if0 (o_iconst 0 (o_zret)) (o_iload 2 (o_if0 (o_jmp 1) (o_aload 0 (o_getR 8 49 (o_iload 1 (o_iald 4 (o_if0 (o_iconst 0 (o_zret)) (o_jmp 1)))))))))))))))
def B187_1 (orc : Orc) : K := o_aload 0 (o_getR 8 49 (o_iload 1 (o_iconst 1 (o_iast 4 (fun x => vp_nar .boolean x) (o_iconst 3904 (o_iload 1 (o_i2 (fun x y => x * y) (o_istore 3 (o_iload 2 (o_if0 (o_aload 0 (o_iconst 0 (o_iconst 2 (o_iload 1 (o_i2 (fun x y => x + y) (o_vV orc 137 3 8 (o_iconst 0 (o_istore 4 (o_jmp 4))))))))) (o_aload 0 (o_iconst 2 (o_iload 1 (o_i2 (fun x y => x + y) (o_iconst 0 (o_vV orc 137 3 8 (o_aload 0 (o_iconst 0 (o_putZ 8 44 (o_iconst 0 (o_istore 4 (o_jmp 2))))))))))))))))))))))
def B187_2 (orc : Orc) : K := o_iload 4 (o_iconst 64 (o_ilt (o_aload 0 (o_getR 8 36 (o_iload 4 (o_aload 0 (o_getR 8 50 (o_iload 3 (o_iload 4 (o_i2 (fun x y => x + y) (o_iald 0 (o_iast 0 (fun x => x) (o_iinc 4 1 (o_jmp 2)))))))))))) (o_iconst 0 (o_istore 4 (o_jmp 3)))))
def B187_3 (orc : Orc) : K := o_iload 4 (o_iconst 3840 (o_ilt (o_aload 0 (o_getR 8 37 (o_iload 4 (o_aload 0 (o_getR 8 50 (o_iload 3 (o_iconst 64 (o_i2 (fun x y => x + y) (o_iload 4 (o_i2 (fun x y => x + y) (o_iald 0 (o_iast 0 (fun x => x) (o_iinc 4 1 (o_jmp 3)))))))))))))) (o_aload 0 (o_aload 0 (o_getR 8 51 (o_iload 1 (o_iald 0 (o_putI 8 38 (o_iconst 1 (o_zret))))))))))
def B187_4 (orc : Orc) : K := o_iload 4 (o_iconst 64 (o_ilt (o_aload 0 (o_getR 8 50 (o_iload 3 (o_iload 4 (o_i2 (fun x y => x + y) (o_aload 0 (o_getR 8 36 (o_iload 4 (o_iald 0 (o_iast 0 (fun x => x) (o_iinc 4 1 (o_jmp 4)))))))))))) (o_iconst 0 (o_istore 4 (o_jmp 5)))))
def B187_5 (orc : Orc) : K := o_iload 4 (o_iconst 3840 (o_ilt (o_aload 0 (o_getR 8 50 (o_iload 3 (o_iconst 64 (o_i2 (fun x y => x + y) (o_iload 4 (o_i2 (fun x y => x + y) (o_aload 0 (o_getR 8 37 (o_iload 4 (o_iald 0 (o_iast 0 (fun x => x) (o_iinc 4 1 (o_jmp 5)))))))))))))) (o_aload 0 (o_getR 8 51 (o_iload 1 (o_aload 0 (o_getI 8 38 (o_iast 0 (fun x => x) (o_iconst 1 (o_zret))))))))))
def P187 (orc : Orc) (b : Nat) : K := match b with
  | 0 => B187_0 orc
  | 1 => B187_1 orc
  | 2 => B187_2 orc
  | 3 => B187_3 orc
  | 4 => B187_4 orc
  | 5 => B187_5 orc
  | _ => fun _ _ _ => none
def Q187 (b : Nat) : Nat := match b with
  | 0 => 0
  | 1 => 29
  | 2 => 62
  | 3 => 94
  | 4 => 150
  | 5 => 182
  | _ => 0
/-! 188: TruceWallModel.count(I)I -/
def B188_0 (orc : Orc) : K := o_aload 0 (o_iconst 0 (o_putI 8 0 (o_iload 1 (o_iconst 0 (o_iconst 5 (o_sI orc 114 3 (o_if0 (o_iconst (-1) (o_iret)) (o_iload 1 (o_if0 (o_aload 0 (o_getR 8 10 (o_iconst 0 (o_iald 0 (o_iret))))) (o_iload 1 (o_iconst 1 (o_ieq (o_aload 0 (o_getR 8 11 (o_iconst 0 (o_iald 0 (o_iret))))) (o_iload 1 (o_iconst 2 (o_ieq (o_aload 0 (o_getR 8 12 (o_iconst 0 (o_iald 0 (o_iret))))) (o_iload 1 (o_iconst 3 (o_ieq (o_aload 0 (o_vI orc 165 1 8 (o_if0 (o_iconst 0 (o_iret)) (o_iconst 1 (o_iret))))) (o_iload 1 (o_iconst 4 (o_ieq (o_aload 0 (o_getI 8 38 (o_iret))) (o_aload 0 (o_getI 8 1 (o_iret))))))))))))))))))))))))
def P188 (orc : Orc) (b : Nat) : K := match b with
  | 0 => B188_0 orc
  | _ => fun _ _ _ => none
def Q188 (b : Nat) : Nat := match b with
  | 0 => 0
  | _ => 0
/-! 189: java/lang/String.charAt(I)C -/
def B189_0 (orc : Orc) : K := o_sload 0 (o_wI orc 190 1 (o_if0 (o_bad) (o_sload 0 (o_sval (o_iload 1 (o_sI orc 191 2 (o_cret)))))))
def P189 (orc : Orc) (b : Nat) : K := match b with
  | 0 => B189_0 orc
  | _ => fun _ _ _ => none
def Q189 (b : Nat) : Nat := match b with
  | 0 => 0
  | _ => 0
/-! 190: java/lang/String.isLatin1()Z -/
def B190_0 (orc : Orc) : K := o_iconst 1 (o_if0 (o_iconst 0 (o_zret)) (o_sload 0 (o_scod (o_if0 (o_iconst 1 (o_zret)) (o_iconst 0 (o_zret))))))
def P190 (orc : Orc) (b : Nat) : K := match b with
  | 0 => B190_0 orc
  | _ => fun _ _ _ => none
def Q190 (b : Nat) : Nat := match b with
  | 0 => 0
  | _ => 0
/-! 191: java/lang/StringLatin1.charAt([BI)C -/
def B191_0 (orc : Orc) : K := o_iload 1 (o_sload 0 (o_slen (o_sV orc 192 2 (o_sload 0 (o_iload 1 (o_sbald (o_iconst 255 (o_i2 (fun x y => x &&& y) (o_i1 (fun x => (x.toUInt32 % 65536).toInt32) (o_cret))))))))))
def P191 (orc : Orc) (b : Nat) : K := match b with
  | 0 => B191_0 orc
  | _ => fun _ _ _ => none
def Q191 (b : Nat) : Nat := match b with
  | 0 => 0
  | _ => 0
/-! 192: java/lang/String.checkIndex(II)V -/
def B192_0 (orc : Orc) : K := o_iload 0 (o_iload 1 (o_str 20 (o_sI orc 193 3 (o_pop (o_vret)))))
def P192 (orc : Orc) (b : Nat) : K := match b with
  | 0 => B192_0 orc
  | _ => fun _ _ _ => none
def Q192 (b : Nat) : Nat := match b with
  | 0 => 0
  | _ => 0
/-! 193: jdk/internal/util/Preconditions.checkIndex(IILjava/util/function/BiFunction;)I -/
def B193_0 (orc : Orc) : K := o_iload 0 (o_ifn (o_jmp 1) (o_iload 0 (o_iload 1 (o_ilt (o_iload 0 (o_iret)) (o_jmp 1)))))
def B193_1 (orc : Orc) : K := o_bad
def P193 (orc : Orc) (b : Nat) : K := match b with
  | 0 => B193_0 orc
  | 1 => B193_1 orc
  | _ => fun _ _ _ => none
def Q193 (b : Nat) : Nat := match b with
  | 0 => 0
  | 1 => 9
  | _ => 0
/-! 194: TruceWall.state(I)I -/
def B194_0 (orc : Orc) : K := o_iload 1 (o_sw [(0, o_aload 0 (o_getR 7 4 (o_getI 4 1 (o_iret)))), (1, o_aload 0 (o_vI orc 108 1 7 (o_if0 (o_aload 0 (o_getR 7 4 (o_vI orc 50 1 4 (o_iret)))) (o_iconst (-1) (o_iret))))), (2, o_aload 0 (o_getR 7 3 (o_aload 0 (o_getR 7 4 (o_getL 4 2 (o_vI orc 74 2 5 (o_if0 (o_iconst 0 (o_iret)) (o_iconst 1 (o_iret))))))))), (3, o_aload 0 (o_vI orc 108 1 7 (o_if0 (o_iconst (-1) (o_iret)) (o_aload 0 (o_getR 7 3 (o_aload 0 (o_getR 7 4 (o_getL 4 2 (o_aload 0 (o_getR 7 4 (o_vI orc 50 1 4 (o_vI orc 75 3 5 (o_iret))))))))))))), (4, o_aload 0 (o_getR 7 4 (o_getI 4 3 (o_iret)))), (5, o_aload 0 (o_getR 7 4 (o_getR 4 4 (o_iconst 0 (o_iald 0 (o_iret)))))), (6, o_aload 0 (o_getR 7 4 (o_getR 4 4 (o_iconst 1 (o_iald 0 (o_iret)))))), (7, o_aload 0 (o_getR 7 3 (o_aload 0 (o_getR 7 4 (o_getL 4 2 (o_iconst 0 (o_vI orc 69 3 5 (o_iret)))))))), (8, o_aload 0 (o_getR 7 3 (o_aload 0 (o_getR 7 4 (o_getL 4 2 (o_iconst 1 (o_vI orc 69 3 5 (o_iret)))))))), (9, o_aload 0 (o_getI 7 10 (o_iret)))] (o_bad))
def P194 (orc : Orc) (b : Nat) : K := match b with
  | 0 => B194_0 orc
  | _ => fun _ _ _ => none
def Q194 (b : Nat) : Nat := match b with
  | 0 => 0
  | _ => 0
