-- the program as data: written by gen03.py out of what TURN printed
def am_dum : am_e := (.nop, 0, 0, 0, 0, 0, 0)
def k_An_init : List am_e := [
  (.aload_n 0, 1, 0, 0, 0, 0, 0), (.invokespecial 3, 4, 0, 4, 0, 0, 0), am_dum, am_dum, (.aload_n 0, 5, 0, 0, 0, 0, 0), (.bipush 40, 7, 0, 0, 0, 40, 0), am_dum, (.newarray .int, 9, 0, 0, 0, 0, 0), am_dum, 
  (.putfield 11, 12, 6, 0, 0, 0, 0), am_dum, am_dum, (.aload_n 0, 13, 0, 0, 0, 0, 0), (.bipush 40, 15, 0, 0, 0, 40, 0), am_dum, (.newarray .long, 17, 3, 0, 0, 0, 0), am_dum, (.putfield 17, 20, 6, 1, 0, 0, 0), am_dum, am_dum, 
  (.return_, 21, 0, 0, 0, 0, 0)]
def k_An_clear : List am_e := [
  (.aload_n 0, 1, 0, 0, 0, 0, 0), (.iconst 0, 2, 0, 0, 0, 0, 0), (.putfield 21, 5, 6, 2, 0, 0, 0), am_dum, am_dum, (.return_, 6, 0, 0, 0, 0, 0)]
def k_An_count : List am_e := [
  (.aload_n 0, 1, 0, 0, 0, 0, 0), (.getfield 21, 4, 6, 2, 0, 0, 0), am_dum, am_dum, (.ireturn, 5, 0, 0, 0, 0, 0)]
def k_An_add : List am_e := [
  (.aload_n 0, 1, 0, 0, 0, 0, 0), (.getfield 21, 4, 6, 2, 0, 0, 0), am_dum, am_dum, (.aload_n 0, 5, 0, 0, 0, 0, 0), (.getfield 11, 8, 6, 0, 0, 0, 0), am_dum, am_dum, (.arraylength, 9, 0, 0, 0, 0, 0), 
  (.if_icmp .lt 4, 12, 13, 0, 0, 0, 0), am_dum, am_dum, (.return_, 13, 0, 0, 0, 0, 0), (.aload_n 0, 14, 0, 0, 0, 0, 0), (.getfield 21, 17, 6, 2, 0, 0, 0), am_dum, am_dum, (.istore 4, 19, 4, 0, 0, 0, 0), am_dum, 
  (.iload 4, 21, 4, 0, 0, 0, 0), am_dum, (.ifCond .le 55, 24, 76, 0, 0, 0, 0), am_dum, am_dum, (.aload_n 0, 25, 0, 0, 0, 0, 0), (.getfield 17, 28, 6, 1, 0, 0, 0), am_dum, am_dum, (.iload 4, 30, 4, 0, 0, 0, 0), am_dum, 
  (.iconst 1, 31, 0, 0, 0, 1, 0), (.isub, 32, 0, 0, 0, 0, 0), (.laload, 33, 0, 0, 0, 0, 0), (.lload_n 2, 34, 2, 0, 0, 0, 0), (.lcmp, 35, 0, 0, 0, 0, 0), (.ifCond .ge 41, 38, 76, 0, 0, 0, 0), am_dum, am_dum, 
  (.aload_n 0, 39, 0, 0, 0, 0, 0), (.getfield 11, 42, 6, 0, 0, 0, 0), am_dum, am_dum, (.iload 4, 44, 4, 0, 0, 0, 0), am_dum, (.aload_n 0, 45, 0, 0, 0, 0, 0), (.getfield 11, 48, 6, 0, 0, 0, 0), am_dum, am_dum, 
  (.iload 4, 50, 4, 0, 0, 0, 0), am_dum, (.iconst 1, 51, 0, 0, 0, 1, 0), (.isub, 52, 0, 0, 0, 0, 0), (.iaload, 53, 0, 0, 0, 0, 0), (.iastore, 54, 0, 0, 0, 0, 0), (.aload_n 0, 55, 0, 0, 0, 0, 0), (.getfield 17, 58, 6, 1, 0, 0, 0), 
  am_dum, am_dum, (.iload 4, 60, 4, 0, 0, 0, 0), am_dum, (.aload_n 0, 61, 0, 0, 0, 0, 0), (.getfield 17, 64, 6, 1, 0, 0, 0), am_dum, am_dum, (.iload 4, 66, 4, 0, 0, 0, 0), am_dum, (.iconst 1, 67, 0, 0, 0, 1, 0), 
  (.isub, 68, 0, 0, 0, 0, 0), (.laload, 69, 0, 0, 0, 0, 0), (.lastore, 70, 0, 0, 0, 0, 0), (.iinc 4 (-1), 73, 4, 0, 0, -1, 0), am_dum, am_dum, (.goto (-54), 76, 19, 0, 0, 0, 0), am_dum, am_dum, (.aload_n 0, 77, 0, 0, 0, 0, 0), 
  (.getfield 11, 80, 6, 0, 0, 0, 0), am_dum, am_dum, (.iload 4, 82, 4, 0, 0, 0, 0), am_dum, (.iload_n 1, 83, 1, 0, 0, 0, 0), (.iastore, 84, 0, 0, 0, 0, 0), (.aload_n 0, 85, 0, 0, 0, 0, 0), (.getfield 17, 88, 6, 1, 0, 0, 0), am_dum, 
  am_dum, (.iload 4, 90, 4, 0, 0, 0, 0), am_dum, (.lload_n 2, 91, 2, 0, 0, 0, 0), (.lastore, 92, 0, 0, 0, 0, 0), (.aload_n 0, 93, 0, 0, 0, 0, 0), (.dup, 94, 0, 0, 0, 0, 0), (.getfield 21, 97, 6, 2, 0, 0, 0), am_dum, am_dum, 
  (.iconst 1, 98, 0, 0, 0, 1, 0), (.iadd, 99, 0, 0, 0, 0, 0), (.putfield 21, 102, 6, 2, 0, 0, 0), am_dum, am_dum, (.return_, 103, 0, 0, 0, 0, 0)]
def k_An_has : List am_e := [
  (.iload_n 1, 1, 1, 0, 0, 0, 0), (.ifCond .lt 24, 4, 25, 0, 0, 0, 0), am_dum, am_dum, (.iload_n 1, 5, 1, 0, 0, 0, 0), (.aload_n 0, 6, 0, 0, 0, 0, 0), (.getfield 21, 9, 6, 2, 0, 0, 0), am_dum, am_dum, 
  (.if_icmp .ge 16, 12, 25, 0, 0, 0, 0), am_dum, am_dum, (.iload_n 1, 13, 1, 0, 0, 0, 0), (.aload_n 0, 14, 0, 0, 0, 0, 0), (.getfield 11, 17, 6, 0, 0, 0, 0), am_dum, am_dum, (.arraylength, 18, 0, 0, 0, 0, 0), 
  (.if_icmp .ge 7, 21, 25, 0, 0, 0, 0), am_dum, am_dum, (.iconst 1, 22, 0, 0, 0, 1, 0), (.goto 4, 25, 26, 0, 0, 0, 0), am_dum, am_dum, (.iconst 0, 26, 0, 0, 0, 0, 0), (.ireturn, 27, 1, 0, 0, 0, 0)]
def k_An_textAt : List am_e := [
  (.aload_n 0, 1, 0, 0, 0, 0, 0), (.iload_n 1, 2, 1, 0, 0, 0, 0), (.invokevirtual 25, 5, 4, 0, 1, 0, 0), am_dum, am_dum, (.ifCond .eq 12, 8, 17, 0, 0, 0, 0), am_dum, am_dum, (.aload_n 0, 9, 0, 0, 0, 0, 0), 
  (.getfield 11, 12, 6, 0, 0, 0, 0), am_dum, am_dum, (.iload_n 1, 13, 1, 0, 0, 0, 0), (.iaload, 14, 0, 0, 0, 0, 0), (.goto 5, 17, 19, 0, 0, 0, 0), am_dum, am_dum, (.bipush (-2), 19, 0, 0, 0, -2, 0), am_dum, 
  (.ireturn, 20, 0, 0, 0, 0, 0)]
def k_An_weightAt : List am_e := [
  (.aload_n 0, 1, 0, 0, 0, 0, 0), (.iload_n 1, 2, 1, 0, 0, 0, 0), (.invokevirtual 25, 5, 4, 0, 1, 0, 0), am_dum, am_dum, (.ifCond .eq 12, 8, 17, 0, 0, 0, 0), am_dum, am_dum, (.aload_n 0, 9, 0, 0, 0, 0, 0), 
  (.getfield 17, 12, 6, 1, 0, 0, 0), am_dum, am_dum, (.iload_n 1, 13, 1, 0, 0, 0, 0), (.laload, 14, 0, 0, 0, 0, 0), (.goto 4, 17, 18, 0, 0, 0, 0), am_dum, am_dum, (.lconst 0, 18, 0, 0, 0, 0, 0), (.lreturn, 19, 0, 0, 0, 0, 0)]
def k_La_init : List am_e := [
  (.aload_n 0, 1, 0, 0, 0, 0, 0), (.invokespecial 1, 4, 0, 4, 0, 0, 0), am_dum, am_dum, (.aload_n 0, 5, 0, 0, 0, 0, 0), (.bipush 8, 7, 0, 0, 0, 8, 0), am_dum, (.newarray .long, 9, 3, 0, 0, 0, 0), am_dum, 
  (.putfield 9, 12, 2, 1, 0, 0, 0), am_dum, am_dum, (.aload_n 0, 13, 0, 0, 0, 0, 0), (.bipush 8, 15, 0, 0, 0, 8, 0), am_dum, (.newarray .long, 17, 3, 0, 0, 0, 0), am_dum, (.putfield 13, 20, 2, 2, 0, 0, 0), am_dum, am_dum, 
  (.aload_n 0, 21, 0, 0, 0, 0, 0), (.bipush 32, 23, 0, 0, 0, 32, 0), am_dum, (.newarray .long, 25, 3, 0, 0, 0, 0), am_dum, (.putfield 16, 28, 2, 4, 0, 0, 0), am_dum, am_dum, (.aload_n 0, 29, 0, 0, 0, 0, 0), 
  (.iload_n 1, 30, 1, 0, 0, 0, 0), (.putfield 19, 33, 2, 0, 0, 0, 0), am_dum, am_dum, (.return_, 34, 0, 0, 0, 0, 0)]
def k_La_number : List am_e := [
  (.aload_n 0, 1, 0, 0, 0, 0, 0), (.getfield 19, 4, 2, 0, 0, 0, 0), am_dum, am_dum, (.ireturn, 5, 0, 0, 0, 0, 0)]
def k_La_isStop : List am_e := [
  (.iconst 0, 1, 0, 0, 0, 0, 0), (.istore_n 3, 2, 3, 0, 0, 0, 0), (.iload_n 3, 3, 3, 0, 0, 0, 0), (.aload_n 0, 4, 0, 0, 0, 0, 0), (.getfield 23, 7, 2, 5, 0, 0, 0), am_dum, am_dum, (.if_icmp .ge 31, 10, 38, 0, 0, 0, 0), am_dum, 
  am_dum, (.iload_n 3, 11, 3, 0, 0, 0, 0), (.aload_n 0, 12, 0, 0, 0, 0, 0), (.getfield 16, 15, 2, 4, 0, 0, 0), am_dum, am_dum, (.arraylength, 16, 0, 0, 0, 0, 0), (.if_icmp .ge 22, 19, 38, 0, 0, 0, 0), am_dum, am_dum, 
  (.aload_n 0, 20, 0, 0, 0, 0, 0), (.getfield 16, 23, 2, 4, 0, 0, 0), am_dum, am_dum, (.iload_n 3, 24, 3, 0, 0, 0, 0), (.laload, 25, 0, 0, 0, 0, 0), (.lload_n 1, 26, 1, 0, 0, 0, 0), (.lcmp, 27, 0, 0, 0, 0, 0), 
  (.ifCond .ne 5, 30, 32, 0, 0, 0, 0), am_dum, am_dum, (.iconst 1, 31, 0, 0, 0, 1, 0), (.ireturn, 32, 1, 0, 0, 0, 0), (.iinc 3 1, 35, 3, 0, 0, 1, 0), am_dum, am_dum, (.goto (-33), 38, 2, 0, 0, 0, 0), am_dum, am_dum, 
  (.iconst 0, 39, 0, 0, 0, 0, 0), (.ireturn, 40, 1, 0, 0, 0, 0)]
def k_La_addStop : List am_e := [
  (.aload_n 0, 1, 0, 0, 0, 0, 0), (.lload_n 1, 2, 1, 0, 0, 0, 0), (.invokevirtual 26, 5, 9, 0, 1, 0, 0), am_dum, am_dum, (.ifCond .eq 5, 8, 10, 0, 0, 0, 0), am_dum, am_dum, (.iconst 0, 9, 0, 0, 0, 0, 0), 
  (.ireturn, 10, 1, 0, 0, 0, 0), (.aload_n 0, 11, 0, 0, 0, 0, 0), (.getfield 23, 14, 2, 5, 0, 0, 0), am_dum, am_dum, (.aload_n 0, 15, 0, 0, 0, 0, 0), (.getfield 16, 18, 2, 4, 0, 0, 0), am_dum, am_dum, 
  (.arraylength, 19, 0, 0, 0, 0, 0), (.if_icmp .lt 32, 22, 51, 0, 0, 0, 0), am_dum, am_dum, (.aload_n 0, 23, 0, 0, 0, 0, 0), (.getfield 16, 26, 2, 4, 0, 0, 0), am_dum, am_dum, (.arraylength, 27, 0, 0, 0, 0, 0), 
  (.sipush 2048, 30, 0, 0, 0, 2048, 0), am_dum, am_dum, (.if_icmp .ge 21, 33, 51, 0, 0, 0, 0), am_dum, am_dum, (.aload_n 0, 34, 0, 0, 0, 0, 0), (.aload_n 0, 35, 0, 0, 0, 0, 0), (.getfield 16, 38, 2, 4, 0, 0, 0), am_dum, am_dum, 
  (.iconst 2, 39, 0, 0, 0, 2, 0), (.aload_n 0, 40, 0, 0, 0, 0, 0), (.getfield 16, 43, 2, 4, 0, 0, 0), am_dum, am_dum, (.arraylength, 44, 0, 0, 0, 0, 0), (.imul, 45, 0, 0, 0, 0, 0), (.invokestatic 30, 48, 168, 3, 2, 0, 0), am_dum, 
  am_dum, (.putfield 16, 51, 2, 4, 0, 0, 0), am_dum, am_dum, (.aload_n 0, 52, 0, 0, 0, 0, 0), (.getfield 23, 55, 2, 5, 0, 0, 0), am_dum, am_dum, (.aload_n 0, 56, 0, 0, 0, 0, 0), (.getfield 16, 59, 2, 4, 0, 0, 0), am_dum, am_dum, 
  (.arraylength, 60, 0, 0, 0, 0, 0), (.if_icmp .lt 5, 63, 65, 0, 0, 0, 0), am_dum, am_dum, (.iconst 0, 64, 0, 0, 0, 0, 0), (.ireturn, 65, 1, 0, 0, 0, 0), (.aload_n 0, 66, 0, 0, 0, 0, 0), (.getfield 16, 69, 2, 4, 0, 0, 0), am_dum, 
  am_dum, (.aload_n 0, 70, 0, 0, 0, 0, 0), (.getfield 23, 73, 2, 5, 0, 0, 0), am_dum, am_dum, (.lload_n 1, 74, 1, 0, 0, 0, 0), (.lastore, 75, 0, 0, 0, 0, 0), (.aload_n 0, 76, 0, 0, 0, 0, 0), (.dup, 77, 0, 0, 0, 0, 0), 
  (.getfield 23, 80, 2, 5, 0, 0, 0), am_dum, am_dum, (.iconst 1, 81, 0, 0, 0, 1, 0), (.iadd, 82, 0, 0, 0, 0, 0), (.putfield 23, 85, 2, 5, 0, 0, 0), am_dum, am_dum, (.iconst 1, 86, 0, 0, 0, 1, 0), (.ireturn, 87, 1, 0, 0, 0, 0)]
def k_La_ruleCount : List am_e := [
  (.aload_n 0, 1, 0, 0, 0, 0, 0), (.getfield 36, 4, 2, 3, 0, 0, 0), am_dum, am_dum, (.ireturn, 5, 0, 0, 0, 0, 0)]
def k_La_addRule : List am_e := [
  (.aload_n 0, 1, 0, 0, 0, 0, 0), (.getfield 36, 4, 2, 3, 0, 0, 0), am_dum, am_dum, (.bipush 8, 6, 0, 0, 0, 8, 0), am_dum, (.if_icmp .lt 5, 9, 11, 0, 0, 0, 0), am_dum, am_dum, (.iconst 0, 10, 0, 0, 0, 0, 0), 
  (.ireturn, 11, 1, 0, 0, 0, 0), (.aload_n 0, 12, 0, 0, 0, 0, 0), (.getfield 9, 15, 2, 1, 0, 0, 0), am_dum, am_dum, (.aload_n 0, 16, 0, 0, 0, 0, 0), (.getfield 36, 19, 2, 3, 0, 0, 0), am_dum, am_dum, 
  (.lload_n 1, 20, 1, 0, 0, 0, 0), (.lastore, 21, 0, 0, 0, 0, 0), (.aload_n 0, 22, 0, 0, 0, 0, 0), (.getfield 13, 25, 2, 2, 0, 0, 0), am_dum, am_dum, (.aload_n 0, 26, 0, 0, 0, 0, 0), (.getfield 36, 29, 2, 3, 0, 0, 0), am_dum, 
  am_dum, (.lload_n 3, 30, 3, 0, 0, 0, 0), (.lastore, 31, 0, 0, 0, 0, 0), (.aload_n 0, 32, 0, 0, 0, 0, 0), (.dup, 33, 0, 0, 0, 0, 0), (.getfield 36, 36, 2, 3, 0, 0, 0), am_dum, am_dum, (.iconst 1, 37, 0, 0, 0, 1, 0), 
  (.iadd, 38, 0, 0, 0, 0, 0), (.putfield 36, 41, 2, 3, 0, 0, 0), am_dum, am_dum, (.iconst 1, 42, 0, 0, 0, 1, 0), (.ireturn, 43, 1, 0, 0, 0, 0)]
def k_La_stemOf : List am_e := [
  (.lload_n 1, 1, 1, 0, 0, 0, 0), (.invokestatic 39, 4, 80, 3, 1, 0, 0), am_dum, am_dum, (.istore_n 3, 5, 3, 0, 0, 0, 0), (.iconst 0, 6, 0, 0, 0, 0, 0), (.istore 4, 8, 4, 0, 0, 0, 0), am_dum, (.iload 4, 10, 4, 0, 0, 0, 0), am_dum, 
  (.aload_n 0, 11, 0, 0, 0, 0, 0), (.getfield 36, 14, 2, 3, 0, 0, 0), am_dum, am_dum, (.if_icmp .ge 85, 17, 99, 0, 0, 0, 0), am_dum, am_dum, (.iload 4, 19, 4, 0, 0, 0, 0), am_dum, (.bipush 8, 21, 0, 0, 0, 8, 0), am_dum, 
  (.if_icmp .ge 78, 24, 99, 0, 0, 0, 0), am_dum, am_dum, (.iload_n 3, 25, 3, 0, 0, 0, 0), (.aload_n 0, 26, 0, 0, 0, 0, 0), (.getfield 9, 29, 2, 1, 0, 0, 0), am_dum, am_dum, (.iload 4, 31, 4, 0, 0, 0, 0), am_dum, 
  (.laload, 32, 0, 0, 0, 0, 0), (.invokestatic 39, 35, 80, 3, 1, 0, 0), am_dum, am_dum, (.isub, 36, 0, 0, 0, 0, 0), (.istore 5, 38, 5, 0, 0, 0, 0), am_dum, (.iload 5, 40, 5, 0, 0, 0, 0), am_dum, (.iconst 3, 41, 0, 0, 0, 3, 0), 
  (.if_icmp .lt 52, 44, 93, 0, 0, 0, 0), am_dum, am_dum, (.aload_n 0, 45, 0, 0, 0, 0, 0), (.getfield 9, 48, 2, 1, 0, 0, 0), am_dum, am_dum, (.iload 4, 50, 4, 0, 0, 0, 0), am_dum, (.laload, 51, 0, 0, 0, 0, 0), 
  (.lload_n 1, 52, 1, 0, 0, 0, 0), (.invokestatic 45, 55, 14, 3, 2, 0, 0), am_dum, am_dum, (.ifCond .eq 38, 58, 93, 0, 0, 0, 0), am_dum, am_dum, (.lload_n 1, 59, 1, 0, 0, 0, 0), (.bipush 12, 61, 0, 0, 0, 12, 0), am_dum, 
  (.iload 5, 63, 5, 0, 0, 0, 0), am_dum, (.isub, 64, 0, 0, 0, 0, 0), (.invokestatic 49, 67, 79, 3, 2, 0, 0), am_dum, am_dum, (.lstore 6, 69, 6, 0, 0, 0, 0), am_dum, (.lload 6, 71, 6, 0, 0, 0, 0), am_dum, 
  (.bipush 12, 73, 0, 0, 0, 12, 0), am_dum, (.iload 5, 75, 5, 0, 0, 0, 0), am_dum, (.isub, 76, 0, 0, 0, 0, 0), (.invokestatic 53, 79, 78, 3, 2, 0, 0), am_dum, am_dum, (.aload_n 0, 80, 0, 0, 0, 0, 0), 
  (.getfield 13, 83, 2, 2, 0, 0, 0), am_dum, am_dum, (.iload 4, 85, 4, 0, 0, 0, 0), am_dum, (.laload, 86, 0, 0, 0, 0, 0), (.iload 5, 88, 5, 0, 0, 0, 0), am_dum, (.invokestatic 49, 91, 79, 3, 2, 0, 0), am_dum, am_dum, 
  (.ladd, 92, 0, 0, 0, 0, 0), (.lreturn, 93, 0, 0, 0, 0, 0), (.iinc 4 1, 96, 4, 0, 0, 1, 0), am_dum, am_dum, (.goto (-88), 99, 8, 0, 0, 0, 0), am_dum, am_dum, (.lload_n 1, 100, 1, 0, 0, 0, 0), (.lreturn, 101, 0, 0, 0, 0, 0)]
def k_La_isEnding : List am_e := [
  (.lload_n 0, 1, 0, 0, 0, 0, 0), (.invokestatic 39, 4, 80, 3, 1, 0, 0), am_dum, am_dum, (.istore 4, 6, 4, 0, 0, 0, 0), am_dum, (.lload_n 0, 7, 0, 0, 0, 0, 0), (.bipush 12, 9, 0, 0, 0, 12, 0), am_dum, (.iload 4, 11, 4, 0, 0, 0, 0), 
  am_dum, (.isub, 12, 0, 0, 0, 0, 0), (.invokestatic 49, 15, 79, 3, 2, 0, 0), am_dum, am_dum, (.lstore 5, 17, 5, 0, 0, 0, 0), am_dum, (.lload_n 2, 18, 2, 0, 0, 0, 0), (.bipush 12, 20, 0, 0, 0, 12, 0), am_dum, 
  (.lload_n 2, 21, 2, 0, 0, 0, 0), (.invokestatic 39, 24, 80, 3, 1, 0, 0), am_dum, am_dum, (.isub, 25, 0, 0, 0, 0, 0), (.invokestatic 49, 28, 79, 3, 2, 0, 0), am_dum, am_dum, (.lstore 7, 30, 7, 0, 0, 0, 0), am_dum, 
  (.lload 7, 32, 7, 0, 0, 0, 0), am_dum, (.iload 4, 34, 4, 0, 0, 0, 0), am_dum, (.invokestatic 49, 37, 79, 3, 2, 0, 0), am_dum, am_dum, (.lstore 9, 39, 9, 0, 0, 0, 0), am_dum, (.lload 7, 41, 7, 0, 0, 0, 0), am_dum, 
  (.lload 9, 43, 9, 0, 0, 0, 0), am_dum, (.iload 4, 45, 4, 0, 0, 0, 0), am_dum, (.invokestatic 53, 48, 78, 3, 2, 0, 0), am_dum, am_dum, (.lsub, 49, 0, 0, 0, 0, 0), (.lload 5, 51, 5, 0, 0, 0, 0), am_dum, (.lcmp, 52, 0, 0, 0, 0, 0), 
  (.ifCond .ne 7, 55, 59, 0, 0, 0, 0), am_dum, am_dum, (.iconst 1, 56, 0, 0, 0, 1, 0), (.goto 4, 59, 60, 0, 0, 0, 0), am_dum, am_dum, (.iconst 0, 60, 0, 0, 0, 0, 0), (.ireturn, 61, 1, 0, 0, 0, 0)]
def k_La_stemInTexts : List am_e := [
  (.aload_n 0, 1, 0, 0, 0, 0, 0), (.lload_n 1, 2, 1, 0, 0, 0, 0), (.invokevirtual 26, 5, 9, 0, 1, 0, 0), am_dum, am_dum, (.ifCond .eq 7, 8, 12, 0, 0, 0, 0), am_dum, am_dum, (.lconst 0, 9, 0, 0, 0, 0, 0), 
  (.goto 8, 12, 17, 0, 0, 0, 0), am_dum, am_dum, (.aload_n 0, 13, 0, 0, 0, 0, 0), (.lload_n 1, 14, 1, 0, 0, 0, 0), (.invokevirtual 56, 17, 13, 0, 1, 0, 0), am_dum, am_dum, (.lreturn, 18, 0, 0, 0, 0, 0)]
def k_Li_init : List am_e := [
  (.aload_n 0, 1, 0, 0, 0, 0, 0), (.invokespecial 3, 4, 0, 4, 0, 0, 0), am_dum, am_dum, (.aload_n 0, 5, 0, 0, 0, 0, 0), (.sipush 400, 8, 0, 0, 0, 400, 0), am_dum, am_dum, (.newarray .long, 10, 3, 0, 0, 0, 0), am_dum, 
  (.putfield 11, 13, 7, 0, 0, 0, 0), am_dum, am_dum, (.aload_n 0, 14, 0, 0, 0, 0, 0), (.sipush 400, 17, 0, 0, 0, 400, 0), am_dum, am_dum, (.newarray .int, 19, 0, 0, 0, 0, 0), am_dum, (.putfield 17, 22, 7, 1, 0, 0, 0), am_dum, 
  am_dum, (.aload_n 0, 23, 0, 0, 0, 0, 0), (.bipush 12, 25, 0, 0, 0, 12, 0), am_dum, (.newarray .int, 27, 0, 0, 0, 0, 0), am_dum, (.putfield 23, 30, 7, 3, 0, 0, 0), am_dum, am_dum, (.aload_n 0, 31, 0, 0, 0, 0, 0), 
  (.bipush 12, 33, 0, 0, 0, 12, 0), am_dum, (.newarray .int, 35, 0, 0, 0, 0, 0), am_dum, (.putfield 26, 38, 7, 5, 0, 0, 0), am_dum, am_dum, (.aload_n 0, 39, 0, 0, 0, 0, 0), (.bipush 13, 41, 0, 0, 0, 13, 0), am_dum, 
  (.newarray .int, 43, 0, 0, 0, 0, 0), am_dum, (.putfield 29, 46, 7, 6, 0, 0, 0), am_dum, am_dum, (.return_, 47, 0, 0, 0, 0, 0)]
def k_Li_clear : List am_e := [
  (.aload_n 0, 1, 0, 0, 0, 0, 0), (.iconst 0, 2, 0, 0, 0, 0, 0), (.putfield 32, 5, 7, 2, 0, 0, 0), am_dum, am_dum, (.return_, 6, 0, 0, 0, 0, 0)]
def k_Li_count : List am_e := [
  (.aload_n 0, 1, 0, 0, 0, 0, 0), (.getfield 32, 4, 7, 2, 0, 0, 0), am_dum, am_dum, (.ireturn, 5, 0, 0, 0, 0, 0)]
def k_Li_wordAt : List am_e := [
  (.iload_n 1, 1, 1, 0, 0, 0, 0), (.ifCond .lt 29, 4, 30, 0, 0, 0, 0), am_dum, am_dum, (.iload_n 1, 5, 1, 0, 0, 0, 0), (.aload_n 0, 6, 0, 0, 0, 0, 0), (.getfield 32, 9, 7, 2, 0, 0, 0), am_dum, am_dum, 
  (.if_icmp .ge 21, 12, 30, 0, 0, 0, 0), am_dum, am_dum, (.iload_n 1, 13, 1, 0, 0, 0, 0), (.aload_n 0, 14, 0, 0, 0, 0, 0), (.getfield 11, 17, 7, 0, 0, 0, 0), am_dum, am_dum, (.arraylength, 18, 0, 0, 0, 0, 0), 
  (.if_icmp .ge 12, 21, 30, 0, 0, 0, 0), am_dum, am_dum, (.aload_n 0, 22, 0, 0, 0, 0, 0), (.getfield 11, 25, 7, 0, 0, 0, 0), am_dum, am_dum, (.iload_n 1, 26, 1, 0, 0, 0, 0), (.laload, 27, 0, 0, 0, 0, 0), 
  (.goto 4, 30, 31, 0, 0, 0, 0), am_dum, am_dum, (.lconst 0, 31, 0, 0, 0, 0, 0), (.lreturn, 32, 0, 0, 0, 0, 0)]
def k_Li_search : List am_e := [
  (.aload_n 0, 1, 0, 0, 0, 0, 0), (.lload_n 3, 2, 3, 0, 0, 0, 0), (.aload_n 0, 3, 0, 0, 0, 0, 0), (.getfield 23, 6, 7, 3, 0, 0, 0), am_dum, am_dum, (.invokestatic 36, 9, 83, 3, 2, 0, 0), am_dum, am_dum, 
  (.putfield 40, 12, 7, 4, 0, 0, 0), am_dum, am_dum, (.iconst 0, 13, 0, 0, 0, 0, 0), (.istore 6, 15, 6, 0, 0, 0, 0), am_dum, (.iload 6, 17, 6, 0, 0, 0, 0), am_dum, (.bipush 40, 19, 0, 0, 0, 40, 0), am_dum, 
  (.if_icmp .ge 65, 22, 84, 0, 0, 0, 0), am_dum, am_dum, (.aload_n 1, 23, 1, 0, 0, 0, 0), (.iload 6, 25, 6, 0, 0, 0, 0), am_dum, (.iload_n 2, 26, 2, 0, 0, 0, 0), (.iconst (-1), 27, 0, 0, 0, -1, 0), 
  (.invokevirtual 43, 30, 45, 0, 3, 0, 0), am_dum, am_dum, (.ifCond .eq 12, 33, 42, 0, 0, 0, 0), am_dum, am_dum, (.aload_n 1, 34, 1, 0, 0, 0, 0), (.iload 6, 36, 6, 0, 0, 0, 0), am_dum, (.invokevirtual 47, 39, 47, 0, 1, 0, 0), 
  am_dum, am_dum, (.goto 4, 42, 43, 0, 0, 0, 0), am_dum, am_dum, (.iconst 0, 43, 0, 0, 0, 0, 0), (.istore 7, 45, 7, 0, 0, 0, 0), am_dum, (.aload_n 1, 46, 1, 0, 0, 0, 0), (.iload 6, 48, 6, 0, 0, 0, 0), am_dum, 
  (.invokevirtual 51, 51, 46, 0, 1, 0, 0), am_dum, am_dum, (.istore 8, 53, 8, 0, 0, 0, 0), am_dum, (.iload 8, 55, 8, 0, 0, 0, 0), am_dum, (.iload 7, 57, 7, 0, 0, 0, 0), am_dum, (.if_icmp .ge 21, 60, 78, 0, 0, 0, 0), am_dum, am_dum, 
  (.aload_n 0, 61, 0, 0, 0, 0, 0), (.aload_n 1, 62, 1, 0, 0, 0, 0), (.iload 8, 64, 8, 0, 0, 0, 0), am_dum, (.invokevirtual 54, 67, 61, 0, 1, 0, 0), am_dum, am_dum, (.iload 5, 69, 5, 0, 0, 0, 0), am_dum, 
  (.invokevirtual 58, 72, 21, 0, 2, 0, 0), am_dum, am_dum, (.iinc 8 1, 75, 8, 0, 0, 1, 0), am_dum, am_dum, (.goto (-22), 78, 53, 0, 0, 0, 0), am_dum, am_dum, (.iinc 6 1, 81, 6, 0, 0, 1, 0), am_dum, am_dum, 
  (.goto (-66), 84, 15, 0, 0, 0, 0), am_dum, am_dum, (.return_, 85, 0, 0, 0, 0, 0)]
def k_Li_offer : List am_e := [
  (.lload_n 1, 1, 1, 0, 0, 0, 0), (.lconst 0, 2, 0, 0, 0, 0, 0), (.lcmp, 3, 0, 0, 0, 0, 0), (.ifCond .eq 11, 6, 14, 0, 0, 0, 0), am_dum, am_dum, (.aload_n 0, 7, 0, 0, 0, 0, 0), (.lload_n 1, 8, 1, 0, 0, 0, 0), 
  (.invokevirtual 62, 11, 22, 0, 1, 0, 0), am_dum, am_dum, (.ifCond .eq 4, 14, 15, 0, 0, 0, 0), am_dum, am_dum, (.return_, 15, 0, 0, 0, 0, 0), (.aload_n 0, 16, 0, 0, 0, 0, 0), (.lload_n 1, 17, 1, 0, 0, 0, 0), 
  (.aload_n 0, 18, 0, 0, 0, 0, 0), (.getfield 26, 21, 7, 5, 0, 0, 0), am_dum, am_dum, (.invokestatic 36, 24, 83, 3, 2, 0, 0), am_dum, am_dum, (.invokevirtual 66, 27, 25, 0, 1, 0, 0), am_dum, am_dum, (.istore 4, 29, 4, 0, 0, 0, 0), 
  am_dum, (.iload 4, 31, 4, 0, 0, 0, 0), am_dum, (.iload_n 3, 32, 3, 0, 0, 0, 0), (.if_icmp .gt 10, 35, 42, 0, 0, 0, 0), am_dum, am_dum, (.aload_n 0, 36, 0, 0, 0, 0, 0), (.lload_n 1, 37, 1, 0, 0, 0, 0), 
  (.iload 4, 39, 4, 0, 0, 0, 0), am_dum, (.invokevirtual 69, 42, 23, 0, 2, 0, 0), am_dum, am_dum, (.return_, 43, 0, 0, 0, 0, 0)]
def k_Li_holds : List am_e := [
  (.iconst 0, 1, 0, 0, 0, 0, 0), (.istore_n 3, 2, 3, 0, 0, 0, 0), (.iload_n 3, 3, 3, 0, 0, 0, 0), (.aload_n 0, 4, 0, 0, 0, 0, 0), (.getfield 32, 7, 7, 2, 0, 0, 0), am_dum, am_dum, (.if_icmp .ge 31, 10, 38, 0, 0, 0, 0), am_dum, 
  am_dum, (.iload_n 3, 11, 3, 0, 0, 0, 0), (.aload_n 0, 12, 0, 0, 0, 0, 0), (.getfield 11, 15, 7, 0, 0, 0, 0), am_dum, am_dum, (.arraylength, 16, 0, 0, 0, 0, 0), (.if_icmp .ge 22, 19, 38, 0, 0, 0, 0), am_dum, am_dum, 
  (.aload_n 0, 20, 0, 0, 0, 0, 0), (.getfield 11, 23, 7, 0, 0, 0, 0), am_dum, am_dum, (.iload_n 3, 24, 3, 0, 0, 0, 0), (.laload, 25, 0, 0, 0, 0, 0), (.lload_n 1, 26, 1, 0, 0, 0, 0), (.lcmp, 27, 0, 0, 0, 0, 0), 
  (.ifCond .ne 5, 30, 32, 0, 0, 0, 0), am_dum, am_dum, (.iconst 1, 31, 0, 0, 0, 1, 0), (.ireturn, 32, 1, 0, 0, 0, 0), (.iinc 3 1, 35, 3, 0, 0, 1, 0), am_dum, am_dum, (.goto (-33), 38, 2, 0, 0, 0, 0), am_dum, am_dum, 
  (.iconst 0, 39, 0, 0, 0, 0, 0), (.ireturn, 40, 1, 0, 0, 0, 0)]
def k_Li_insert : List am_e := [
  (.aload_n 0, 1, 0, 0, 0, 0, 0), (.getfield 32, 4, 7, 2, 0, 0, 0), am_dum, am_dum, (.aload_n 0, 5, 0, 0, 0, 0, 0), (.getfield 11, 8, 7, 0, 0, 0, 0), am_dum, am_dum, (.arraylength, 9, 0, 0, 0, 0, 0), 
  (.if_icmp .lt 4, 12, 13, 0, 0, 0, 0), am_dum, am_dum, (.return_, 13, 0, 0, 0, 0, 0), (.aload_n 0, 14, 0, 0, 0, 0, 0), (.getfield 32, 17, 7, 2, 0, 0, 0), am_dum, am_dum, (.istore 4, 19, 4, 0, 0, 0, 0), am_dum, 
  (.iload 4, 21, 4, 0, 0, 0, 0), am_dum, (.ifCond .le 54, 24, 75, 0, 0, 0, 0), am_dum, am_dum, (.aload_n 0, 25, 0, 0, 0, 0, 0), (.lload_n 1, 26, 1, 0, 0, 0, 0), (.iload_n 3, 27, 3, 0, 0, 0, 0), (.iload 4, 29, 4, 0, 0, 0, 0), 
  am_dum, (.iconst 1, 30, 0, 0, 0, 1, 0), (.isub, 31, 0, 0, 0, 0, 0), (.invokevirtual 72, 34, 24, 0, 3, 0, 0), am_dum, am_dum, (.ifCond .eq 41, 37, 75, 0, 0, 0, 0), am_dum, am_dum, (.aload_n 0, 38, 0, 0, 0, 0, 0), 
  (.getfield 11, 41, 7, 0, 0, 0, 0), am_dum, am_dum, (.iload 4, 43, 4, 0, 0, 0, 0), am_dum, (.aload_n 0, 44, 0, 0, 0, 0, 0), (.getfield 11, 47, 7, 0, 0, 0, 0), am_dum, am_dum, (.iload 4, 49, 4, 0, 0, 0, 0), am_dum, 
  (.iconst 1, 50, 0, 0, 0, 1, 0), (.isub, 51, 0, 0, 0, 0, 0), (.laload, 52, 0, 0, 0, 0, 0), (.lastore, 53, 0, 0, 0, 0, 0), (.aload_n 0, 54, 0, 0, 0, 0, 0), (.getfield 17, 57, 7, 1, 0, 0, 0), am_dum, am_dum, 
  (.iload 4, 59, 4, 0, 0, 0, 0), am_dum, (.aload_n 0, 60, 0, 0, 0, 0, 0), (.getfield 17, 63, 7, 1, 0, 0, 0), am_dum, am_dum, (.iload 4, 65, 4, 0, 0, 0, 0), am_dum, (.iconst 1, 66, 0, 0, 0, 1, 0), (.isub, 67, 0, 0, 0, 0, 0), 
  (.iaload, 68, 0, 0, 0, 0, 0), (.iastore, 69, 0, 0, 0, 0, 0), (.iinc 4 (-1), 72, 4, 0, 0, -1, 0), am_dum, am_dum, (.goto (-53), 75, 19, 0, 0, 0, 0), am_dum, am_dum, (.aload_n 0, 76, 0, 0, 0, 0, 0), 
  (.getfield 11, 79, 7, 0, 0, 0, 0), am_dum, am_dum, (.iload 4, 81, 4, 0, 0, 0, 0), am_dum, (.lload_n 1, 82, 1, 0, 0, 0, 0), (.lastore, 83, 0, 0, 0, 0, 0), (.aload_n 0, 84, 0, 0, 0, 0, 0), (.getfield 17, 87, 7, 1, 0, 0, 0), am_dum, 
  am_dum, (.iload 4, 89, 4, 0, 0, 0, 0), am_dum, (.iload_n 3, 90, 3, 0, 0, 0, 0), (.iastore, 91, 0, 0, 0, 0, 0), (.aload_n 0, 92, 0, 0, 0, 0, 0), (.dup, 93, 0, 0, 0, 0, 0), (.getfield 32, 96, 7, 2, 0, 0, 0), am_dum, am_dum, 
  (.iconst 1, 97, 0, 0, 0, 1, 0), (.iadd, 98, 0, 0, 0, 0, 0), (.putfield 32, 101, 7, 2, 0, 0, 0), am_dum, am_dum, (.return_, 102, 0, 0, 0, 0, 0)]
def k_Li_standsBefore : List am_e := [
  (.iload 4, 2, 4, 0, 0, 0, 0), am_dum, (.ifCond .lt 13, 5, 15, 0, 0, 0, 0), am_dum, am_dum, (.iload 4, 7, 4, 0, 0, 0, 0), am_dum, (.aload_n 0, 8, 0, 0, 0, 0, 0), (.getfield 11, 11, 7, 0, 0, 0, 0), am_dum, am_dum, 
  (.arraylength, 12, 0, 0, 0, 0, 0), (.if_icmp .lt 5, 15, 17, 0, 0, 0, 0), am_dum, am_dum, (.iconst 0, 16, 0, 0, 0, 0, 0), (.ireturn, 17, 1, 0, 0, 0, 0), (.iload_n 3, 18, 3, 0, 0, 0, 0), (.aload_n 0, 19, 0, 0, 0, 0, 0), 
  (.getfield 17, 22, 7, 1, 0, 0, 0), am_dum, am_dum, (.iload 4, 24, 4, 0, 0, 0, 0), am_dum, (.iaload, 25, 0, 0, 0, 0, 0), (.if_icmp .lt 26, 28, 51, 0, 0, 0, 0), am_dum, am_dum, (.iload_n 3, 29, 3, 0, 0, 0, 0), 
  (.aload_n 0, 30, 0, 0, 0, 0, 0), (.getfield 17, 33, 7, 1, 0, 0, 0), am_dum, am_dum, (.iload 4, 35, 4, 0, 0, 0, 0), am_dum, (.iaload, 36, 0, 0, 0, 0, 0), (.if_icmp .ne 19, 39, 55, 0, 0, 0, 0), am_dum, am_dum, 
  (.lload_n 1, 40, 1, 0, 0, 0, 0), (.aload_n 0, 41, 0, 0, 0, 0, 0), (.getfield 11, 44, 7, 0, 0, 0, 0), am_dum, am_dum, (.iload 4, 46, 4, 0, 0, 0, 0), am_dum, (.laload, 47, 0, 0, 0, 0, 0), (.lcmp, 48, 0, 0, 0, 0, 0), 
  (.ifCond .ge 7, 51, 55, 0, 0, 0, 0), am_dum, am_dum, (.iconst 1, 52, 0, 0, 0, 1, 0), (.goto 4, 55, 56, 0, 0, 0, 0), am_dum, am_dum, (.iconst 0, 56, 0, 0, 0, 0, 0), (.ireturn, 57, 1, 0, 0, 0, 0)]
def k_Li_changesNeeded : List am_e := [
  (.iload_n 1, 1, 1, 0, 0, 0, 0), (.aload_n 0, 2, 0, 0, 0, 0, 0), (.getfield 26, 5, 7, 5, 0, 0, 0), am_dum, am_dum, (.arraylength, 6, 0, 0, 0, 0, 0), (.invokestatic 76, 9, 0, 8, 2, 0, 0), am_dum, am_dum, 
  (.istore_n 2, 10, 2, 0, 0, 0, 0), (.iconst 0, 11, 0, 0, 0, 0, 0), (.istore_n 3, 12, 3, 0, 0, 0, 0), (.iload_n 3, 13, 3, 0, 0, 0, 0), (.iload_n 2, 14, 2, 0, 0, 0, 0), (.if_icmp .gt 16, 17, 30, 0, 0, 0, 0), am_dum, am_dum, 
  (.aload_n 0, 18, 0, 0, 0, 0, 0), (.getfield 29, 21, 7, 6, 0, 0, 0), am_dum, am_dum, (.iload_n 3, 22, 3, 0, 0, 0, 0), (.iload_n 3, 23, 3, 0, 0, 0, 0), (.iastore, 24, 0, 0, 0, 0, 0), (.iinc 3 1, 27, 3, 0, 0, 1, 0), am_dum, am_dum, 
  (.goto (-15), 30, 12, 0, 0, 0, 0), am_dum, am_dum, (.iconst 0, 31, 0, 0, 0, 0, 0), (.istore_n 3, 32, 3, 0, 0, 0, 0), (.iload_n 3, 33, 3, 0, 0, 0, 0), (.aload_n 0, 34, 0, 0, 0, 0, 0), (.getfield 40, 37, 7, 4, 0, 0, 0), am_dum, 
  am_dum, (.if_icmp .ge 120, 40, 157, 0, 0, 0, 0), am_dum, am_dum, (.iload_n 3, 41, 3, 0, 0, 0, 0), (.aload_n 0, 42, 0, 0, 0, 0, 0), (.getfield 23, 45, 7, 3, 0, 0, 0), am_dum, am_dum, (.arraylength, 46, 0, 0, 0, 0, 0), 
  (.if_icmp .ge 111, 49, 157, 0, 0, 0, 0), am_dum, am_dum, (.aload_n 0, 50, 0, 0, 0, 0, 0), (.getfield 29, 53, 7, 6, 0, 0, 0), am_dum, am_dum, (.iconst 0, 54, 0, 0, 0, 0, 0), (.iaload, 55, 0, 0, 0, 0, 0), 
  (.istore 4, 57, 4, 0, 0, 0, 0), am_dum, (.aload_n 0, 58, 0, 0, 0, 0, 0), (.getfield 29, 61, 7, 6, 0, 0, 0), am_dum, am_dum, (.iconst 0, 62, 0, 0, 0, 0, 0), (.iload_n 3, 63, 3, 0, 0, 0, 0), (.iconst 1, 64, 0, 0, 0, 1, 0), 
  (.iadd, 65, 0, 0, 0, 0, 0), (.iastore, 66, 0, 0, 0, 0, 0), (.iconst 1, 67, 0, 0, 0, 1, 0), (.istore 5, 69, 5, 0, 0, 0, 0), am_dum, (.iload 5, 71, 5, 0, 0, 0, 0), am_dum, (.iload_n 2, 72, 2, 0, 0, 0, 0), 
  (.if_icmp .gt 79, 75, 151, 0, 0, 0, 0), am_dum, am_dum, (.iload 4, 77, 4, 0, 0, 0, 0), am_dum, (.aload_n 0, 78, 0, 0, 0, 0, 0), (.getfield 23, 81, 7, 3, 0, 0, 0), am_dum, am_dum, (.iload_n 3, 82, 3, 0, 0, 0, 0), 
  (.iaload, 83, 0, 0, 0, 0, 0), (.aload_n 0, 84, 0, 0, 0, 0, 0), (.getfield 26, 87, 7, 5, 0, 0, 0), am_dum, am_dum, (.iload 5, 89, 5, 0, 0, 0, 0), am_dum, (.iconst 1, 90, 0, 0, 0, 1, 0), (.isub, 91, 0, 0, 0, 0, 0), 
  (.iaload, 92, 0, 0, 0, 0, 0), (.if_icmp .ne 7, 95, 99, 0, 0, 0, 0), am_dum, am_dum, (.iconst 0, 96, 0, 0, 0, 0, 0), (.goto 4, 99, 100, 0, 0, 0, 0), am_dum, am_dum, (.iconst 1, 100, 0, 0, 0, 1, 0), (.iadd, 101, 0, 0, 0, 0, 0), 
  (.istore 6, 103, 6, 0, 0, 0, 0), am_dum, (.aload_n 0, 104, 0, 0, 0, 0, 0), (.getfield 29, 107, 7, 6, 0, 0, 0), am_dum, am_dum, (.iload 5, 109, 5, 0, 0, 0, 0), am_dum, (.iaload, 110, 0, 0, 0, 0, 0), 
  (.istore 4, 112, 4, 0, 0, 0, 0), am_dum, (.aload_n 0, 113, 0, 0, 0, 0, 0), (.getfield 29, 116, 7, 6, 0, 0, 0), am_dum, am_dum, (.iload 5, 118, 5, 0, 0, 0, 0), am_dum, (.iload 6, 120, 6, 0, 0, 0, 0), am_dum, 
  (.iconst 1, 121, 0, 0, 0, 1, 0), (.aload_n 0, 122, 0, 0, 0, 0, 0), (.getfield 29, 125, 7, 6, 0, 0, 0), am_dum, am_dum, (.iload 5, 127, 5, 0, 0, 0, 0), am_dum, (.iaload, 128, 0, 0, 0, 0, 0), (.aload_n 0, 129, 0, 0, 0, 0, 0), 
  (.getfield 29, 132, 7, 6, 0, 0, 0), am_dum, am_dum, (.iload 5, 134, 5, 0, 0, 0, 0), am_dum, (.iconst 1, 135, 0, 0, 0, 1, 0), (.isub, 136, 0, 0, 0, 0, 0), (.iaload, 137, 0, 0, 0, 0, 0), (.invokestatic 76, 140, 0, 8, 2, 0, 0), 
  am_dum, am_dum, (.iadd, 141, 0, 0, 0, 0, 0), (.invokestatic 76, 144, 0, 8, 2, 0, 0), am_dum, am_dum, (.iastore, 145, 0, 0, 0, 0, 0), (.iinc 5 1, 148, 5, 0, 0, 1, 0), am_dum, am_dum, (.goto (-79), 151, 69, 0, 0, 0, 0), am_dum, 
  am_dum, (.iinc 3 1, 154, 3, 0, 0, 1, 0), am_dum, am_dum, (.goto (-122), 157, 32, 0, 0, 0, 0), am_dum, am_dum, (.iload_n 2, 158, 2, 0, 0, 0, 0), (.ifCond .lt 12, 161, 170, 0, 0, 0, 0), am_dum, am_dum, 
  (.aload_n 0, 162, 0, 0, 0, 0, 0), (.getfield 29, 165, 7, 6, 0, 0, 0), am_dum, am_dum, (.iload_n 2, 166, 2, 0, 0, 0, 0), (.iaload, 167, 0, 0, 0, 0, 0), (.goto 4, 170, 171, 0, 0, 0, 0), am_dum, am_dum, 
  (.iconst 0, 171, 0, 0, 0, 0, 0), (.ireturn, 172, 0, 0, 0, 0, 0)]
def k_Pa_init : List am_e := [
  (.aload_n 0, 1, 0, 0, 0, 0, 0), (.invokespecial 1, 4, 0, 4, 0, 0, 0), am_dum, am_dum, (.aload_n 0, 5, 0, 0, 0, 0, 0), (.aload_n 1, 6, 1, 0, 0, 0, 0), (.putfield 7, 9, 9, 0, 0, 0, 0), am_dum, am_dum, 
  (.aload_n 0, 10, 0, 0, 0, 0, 0), (.iload_n 2, 11, 2, 0, 0, 0, 0), (.putfield 13, 14, 9, 1, 0, 0, 0), am_dum, am_dum, (.aload_n 0, 15, 0, 0, 0, 0, 0), (.iload_n 3, 16, 3, 0, 0, 0, 0), (.putfield 17, 19, 9, 2, 0, 0, 0), am_dum, 
  am_dum, (.aload_n 0, 20, 0, 0, 0, 0, 0), (.iload 4, 22, 4, 0, 0, 0, 0), am_dum, (.putfield 21, 25, 9, 3, 0, 0, 0), am_dum, am_dum, (.aload_n 0, 26, 0, 0, 0, 0, 0), (.iload 5, 28, 5, 0, 0, 0, 0), am_dum, 
  (.putfield 24, 31, 9, 4, 0, 0, 0), am_dum, am_dum, (.return_, 32, 0, 0, 0, 0, 0)]
def k_Qu_init : List am_e := [
  (.aload_n 0, 1, 0, 0, 0, 0, 0), (.invokespecial 3, 4, 0, 4, 0, 0, 0), am_dum, am_dum, (.aload_n 0, 5, 0, 0, 0, 0, 0), (.new 9, 8, 5, 0, 0, 0, 0), am_dum, am_dum, (.dup, 9, 0, 0, 0, 0, 0), (.invokespecial 11, 12, 155, 1, 0, 0, 0), 
  am_dum, am_dum, (.putfield 12, 15, 4, 1, 0, 0, 0), am_dum, am_dum, (.aload_n 0, 16, 0, 0, 0, 0, 0), (.bipush 48, 18, 0, 0, 0, 48, 0), am_dum, (.newarray .long, 20, 3, 0, 0, 0, 0), am_dum, (.putfield 20, 23, 4, 2, 0, 0, 0), 
  am_dum, am_dum, (.aload_n 0, 24, 0, 0, 0, 0, 0), (.bipush 48, 26, 0, 0, 0, 48, 0), am_dum, (.newarray .long, 28, 3, 0, 0, 0, 0), am_dum, (.putfield 24, 31, 4, 4, 0, 0, 0), am_dum, am_dum, (.aload_n 0, 32, 0, 0, 0, 0, 0), 
  (.bipush 48, 34, 0, 0, 0, 48, 0), am_dum, (.newarray .long, 36, 3, 0, 0, 0, 0), am_dum, (.putfield 27, 39, 4, 5, 0, 0, 0), am_dum, am_dum, (.aload_n 0, 40, 0, 0, 0, 0, 0), (.aload_n 1, 41, 1, 0, 0, 0, 0), 
  (.putfield 30, 44, 4, 0, 0, 0, 0), am_dum, am_dum, (.return_, 45, 0, 0, 0, 0, 0)]
def k_Qu_read : List am_e := [
  (.aload_n 0, 1, 0, 0, 0, 0, 0), (.getfield 12, 4, 4, 1, 0, 0, 0), am_dum, am_dum, (.invokevirtual 34, 7, 163, 0, 0, 0, 0), am_dum, am_dum, (.aload_n 0, 8, 0, 0, 0, 0, 0), (.iconst 0, 9, 0, 0, 0, 0, 0), 
  (.putfield 37, 12, 4, 3, 0, 0, 0), am_dum, am_dum, (.aload_n 0, 13, 0, 0, 0, 0, 0), (.iconst 0, 14, 0, 0, 0, 0, 0), (.putfield 41, 17, 4, 7, 0, 0, 0), am_dum, am_dum, (.aload_n 0, 18, 0, 0, 0, 0, 0), 
  (.iconst 0, 19, 0, 0, 0, 0, 0), (.putfield 44, 22, 4, 8, 0, 0, 0), am_dum, am_dum, (.iconst 1, 23, 0, 0, 0, 1, 0), (.istore_n 1, 24, 1, 0, 0, 0, 0), (.iconst 0, 25, 0, 0, 0, 0, 0), (.istore_n 2, 26, 2, 0, 0, 0, 0), 
  (.iload_n 2, 27, 2, 0, 0, 0, 0), (.bipush 96, 29, 0, 0, 0, 96, 0), am_dum, (.if_icmp .gt 102, 32, 131, 0, 0, 0, 0), am_dum, am_dum, (.aload_n 0, 33, 0, 0, 0, 0, 0), (.invokevirtual 47, 36, 29, 0, 0, 0, 0), am_dum, am_dum, 
  (.aload_n 0, 37, 0, 0, 0, 0, 0), (.getfield 41, 40, 4, 7, 0, 0, 0), am_dum, am_dum, (.aload_n 0, 41, 0, 0, 0, 0, 0), (.getfield 30, 44, 4, 0, 0, 0, 0), am_dum, am_dum, (.invokevirtual 50, 47, 63, 0, 0, 0, 0), am_dum, am_dum, 
  (.if_icmp .lt 16, 50, 63, 0, 0, 0, 0), am_dum, am_dum, (.iload_n 1, 51, 1, 0, 0, 0, 0), (.ifCond .eq 10, 54, 61, 0, 0, 0, 0), am_dum, am_dum, (.aload_n 0, 55, 0, 0, 0, 0, 0), (.getfield 41, 58, 4, 7, 0, 0, 0), am_dum, am_dum, 
  (.goto 4, 61, 62, 0, 0, 0, 0), am_dum, am_dum, (.iconst (-1), 62, 0, 0, 0, -1, 0), (.ireturn, 63, 0, 0, 0, 0, 0), (.iload_n 1, 64, 1, 0, 0, 0, 0), (.ifCond .ne 44, 67, 108, 0, 0, 0, 0), am_dum, am_dum, 
  (.aload_n 0, 68, 0, 0, 0, 0, 0), (.getfield 30, 71, 4, 0, 0, 0, 0), am_dum, am_dum, (.aload_n 0, 72, 0, 0, 0, 0, 0), (.getfield 41, 75, 4, 7, 0, 0, 0), am_dum, am_dum, (.invokevirtual 54, 78, 66, 0, 1, 0, 0), am_dum, am_dum, 
  (.bipush 124, 80, 0, 0, 0, 124, 0), am_dum, (.if_icmp .ne 28, 83, 108, 0, 0, 0, 0), am_dum, am_dum, (.aload_n 0, 84, 0, 0, 0, 0, 0), (.dup, 85, 0, 0, 0, 0, 0), (.getfield 41, 88, 4, 7, 0, 0, 0), am_dum, am_dum, 
  (.iconst 1, 89, 0, 0, 0, 1, 0), (.iadd, 90, 0, 0, 0, 0, 0), (.putfield 41, 93, 4, 7, 0, 0, 0), am_dum, am_dum, (.aload_n 0, 94, 0, 0, 0, 0, 0), (.dup, 95, 0, 0, 0, 0, 0), (.getfield 44, 98, 4, 8, 0, 0, 0), am_dum, am_dum, 
  (.iconst 1, 99, 0, 0, 0, 1, 0), (.iadd, 100, 0, 0, 0, 0, 0), (.putfield 44, 103, 4, 8, 0, 0, 0), am_dum, am_dum, (.iconst 1, 104, 0, 0, 0, 1, 0), (.istore_n 1, 105, 1, 0, 0, 0, 0), (.goto 20, 108, 125, 0, 0, 0, 0), am_dum, 
  am_dum, (.aload_n 0, 109, 0, 0, 0, 0, 0), (.invokevirtual 58, 112, 30, 0, 0, 0, 0), am_dum, am_dum, (.ifCond .eq 8, 115, 120, 0, 0, 0, 0), am_dum, am_dum, (.iconst 0, 116, 0, 0, 0, 0, 0), (.istore_n 1, 117, 1, 0, 0, 0, 0), 
  (.goto 8, 120, 125, 0, 0, 0, 0), am_dum, am_dum, (.aload_n 0, 121, 0, 0, 0, 0, 0), (.getfield 41, 124, 4, 7, 0, 0, 0), am_dum, am_dum, (.ireturn, 125, 0, 0, 0, 0, 0), (.iinc 2 1, 128, 2, 0, 0, 1, 0), am_dum, am_dum, 
  (.goto (-102), 131, 26, 0, 0, 0, 0), am_dum, am_dum, (.aload_n 0, 132, 0, 0, 0, 0, 0), (.getfield 41, 135, 4, 7, 0, 0, 0), am_dum, am_dum, (.ireturn, 136, 0, 0, 0, 0, 0)]
def k_Qu_skipBlanks : List am_e := [
  (.iconst 0, 1, 0, 0, 0, 0, 0), (.istore_n 1, 2, 1, 0, 0, 0, 0), (.iload_n 1, 3, 1, 0, 0, 0, 0), (.bipush 96, 5, 0, 0, 0, 96, 0), am_dum, (.if_icmp .ge 35, 8, 40, 0, 0, 0, 0), am_dum, am_dum, (.aload_n 0, 9, 0, 0, 0, 0, 0), 
  (.getfield 30, 12, 4, 0, 0, 0, 0), am_dum, am_dum, (.aload_n 0, 13, 0, 0, 0, 0, 0), (.getfield 41, 16, 4, 7, 0, 0, 0), am_dum, am_dum, (.invokevirtual 54, 19, 66, 0, 1, 0, 0), am_dum, am_dum, (.bipush 32, 21, 0, 0, 0, 32, 0), 
  am_dum, (.if_icmp .ne 19, 24, 40, 0, 0, 0, 0), am_dum, am_dum, (.aload_n 0, 25, 0, 0, 0, 0, 0), (.dup, 26, 0, 0, 0, 0, 0), (.getfield 41, 29, 4, 7, 0, 0, 0), am_dum, am_dum, (.iconst 1, 30, 0, 0, 0, 1, 0), 
  (.iadd, 31, 0, 0, 0, 0, 0), (.putfield 41, 34, 4, 7, 0, 0, 0), am_dum, am_dum, (.iinc 1 1, 37, 1, 0, 0, 1, 0), am_dum, am_dum, (.goto (-35), 40, 2, 0, 0, 0, 0), am_dum, am_dum, (.return_, 41, 0, 0, 0, 0, 0)]
def k_Qu_readPart : List am_e := [
  (.aload_n 0, 1, 0, 0, 0, 0, 0), (.getfield 30, 4, 4, 0, 0, 0, 0), am_dum, am_dum, (.aload_n 0, 5, 0, 0, 0, 0, 0), (.getfield 41, 8, 4, 7, 0, 0, 0), am_dum, am_dum, (.invokevirtual 54, 11, 66, 0, 1, 0, 0), am_dum, am_dum, 
  (.bipush 45, 13, 0, 0, 0, 45, 0), am_dum, (.if_icmp .ne 7, 16, 20, 0, 0, 0, 0), am_dum, am_dum, (.iconst 1, 17, 0, 0, 0, 1, 0), (.goto 4, 20, 21, 0, 0, 0, 0), am_dum, am_dum, (.iconst 0, 21, 0, 0, 0, 0, 0), 
  (.istore_n 1, 22, 1, 0, 0, 0, 0), (.iload_n 1, 23, 1, 0, 0, 0, 0), (.ifCond .eq 13, 26, 36, 0, 0, 0, 0), am_dum, am_dum, (.aload_n 0, 27, 0, 0, 0, 0, 0), (.dup, 28, 0, 0, 0, 0, 0), (.getfield 41, 31, 4, 7, 0, 0, 0), am_dum, 
  am_dum, (.iconst 1, 32, 0, 0, 0, 1, 0), (.iadd, 33, 0, 0, 0, 0, 0), (.putfield 41, 36, 4, 7, 0, 0, 0), am_dum, am_dum, (.aload_n 0, 37, 0, 0, 0, 0, 0), (.getfield 30, 40, 4, 0, 0, 0, 0), am_dum, am_dum, 
  (.aload_n 0, 41, 0, 0, 0, 0, 0), (.getfield 41, 44, 4, 7, 0, 0, 0), am_dum, am_dum, (.invokevirtual 54, 47, 66, 0, 1, 0, 0), am_dum, am_dum, (.bipush 34, 49, 0, 0, 0, 34, 0), am_dum, (.if_icmp .ne 19, 52, 68, 0, 0, 0, 0), am_dum, 
  am_dum, (.aload_n 0, 53, 0, 0, 0, 0, 0), (.dup, 54, 0, 0, 0, 0, 0), (.getfield 41, 57, 4, 7, 0, 0, 0), am_dum, am_dum, (.iconst 1, 58, 0, 0, 0, 1, 0), (.iadd, 59, 0, 0, 0, 0, 0), (.putfield 41, 62, 4, 7, 0, 0, 0), am_dum, am_dum, 
  (.aload_n 0, 63, 0, 0, 0, 0, 0), (.iload_n 1, 64, 1, 0, 0, 0, 0), (.invokevirtual 62, 67, 31, 0, 1, 0, 0), am_dum, am_dum, (.ireturn, 68, 1, 0, 0, 0, 0), (.aload_n 0, 69, 0, 0, 0, 0, 0), (.invokevirtual 66, 72, 32, 0, 0, 0, 0), 
  am_dum, am_dum, (.lstore_n 2, 73, 2, 0, 0, 0, 0), (.lload_n 2, 74, 2, 0, 0, 0, 0), (.lconst 0, 75, 0, 0, 0, 0, 0), (.lcmp, 76, 0, 0, 0, 0, 0), (.ifCond .ne 5, 79, 81, 0, 0, 0, 0), am_dum, am_dum, (.iconst 0, 80, 0, 0, 0, 0, 0), 
  (.ireturn, 81, 1, 0, 0, 0, 0), (.aload_n 0, 82, 0, 0, 0, 0, 0), (.getfield 30, 85, 4, 0, 0, 0, 0), am_dum, am_dum, (.aload_n 0, 86, 0, 0, 0, 0, 0), (.getfield 41, 89, 4, 7, 0, 0, 0), am_dum, am_dum, 
  (.invokevirtual 54, 92, 66, 0, 1, 0, 0), am_dum, am_dum, (.bipush 42, 94, 0, 0, 0, 42, 0), am_dum, (.if_icmp .ne 7, 97, 101, 0, 0, 0, 0), am_dum, am_dum, (.iconst 1, 98, 0, 0, 0, 1, 0), (.goto 4, 101, 102, 0, 0, 0, 0), am_dum, 
  am_dum, (.iconst 0, 102, 0, 0, 0, 0, 0), (.istore 4, 104, 4, 0, 0, 0, 0), am_dum, (.iload 4, 106, 4, 0, 0, 0, 0), am_dum, (.ifCond .eq 13, 109, 119, 0, 0, 0, 0), am_dum, am_dum, (.aload_n 0, 110, 0, 0, 0, 0, 0), 
  (.dup, 111, 0, 0, 0, 0, 0), (.getfield 41, 114, 4, 7, 0, 0, 0), am_dum, am_dum, (.iconst 1, 115, 0, 0, 0, 1, 0), (.iadd, 116, 0, 0, 0, 0, 0), (.putfield 41, 119, 4, 7, 0, 0, 0), am_dum, am_dum, (.aload_n 0, 120, 0, 0, 0, 0, 0), 
  (.getfield 12, 123, 4, 1, 0, 0, 0), am_dum, am_dum, (.new 72, 126, 9, 0, 0, 0, 0), am_dum, am_dum, (.dup, 127, 0, 0, 0, 0, 0), (.iload 4, 129, 4, 0, 0, 0, 0), am_dum, (.ifCond .eq 9, 132, 138, 0, 0, 0, 0), am_dum, am_dum, 
  (.getstatic 74, 135, 2, 0, 0, 0, 0), am_dum, am_dum, (.goto 6, 138, 141, 0, 0, 0, 0), am_dum, am_dum, (.getstatic 80, 141, 1, 0, 0, 0, 0), am_dum, am_dum, (.iload_n 1, 142, 1, 0, 0, 0, 0), (.aload_n 0, 143, 0, 0, 0, 0, 0), 
  (.getfield 44, 146, 4, 8, 0, 0, 0), am_dum, am_dum, (.aload_n 0, 147, 0, 0, 0, 0, 0), (.getfield 37, 150, 4, 3, 0, 0, 0), am_dum, am_dum, (.iconst 1, 151, 0, 0, 0, 1, 0), (.invokespecial 83, 154, 26, 1, 5, 0, 0), am_dum, am_dum, 
  (.invokevirtual 86, 157, 162, 0, 1, 0, 0), am_dum, am_dum, (.pop, 158, 0, 0, 0, 0, 0), (.aload_n 0, 159, 0, 0, 0, 0, 0), (.lload_n 2, 160, 2, 0, 0, 0, 0), (.invokevirtual 90, 163, 33, 0, 1, 0, 0), am_dum, am_dum, 
  (.iconst 1, 164, 0, 0, 0, 1, 0), (.ireturn, 165, 1, 0, 0, 0, 0)]
def k_Qu_readPhrase : List am_e := [
  (.aload_n 0, 1, 0, 0, 0, 0, 0), (.getfield 37, 4, 4, 3, 0, 0, 0), am_dum, am_dum, (.istore_n 2, 5, 2, 0, 0, 0, 0), (.iconst 0, 6, 0, 0, 0, 0, 0), (.istore_n 3, 7, 3, 0, 0, 0, 0), (.iload_n 3, 8, 3, 0, 0, 0, 0), 
  (.bipush 96, 10, 0, 0, 0, 96, 0), am_dum, (.if_icmp .gt 100, 13, 110, 0, 0, 0, 0), am_dum, am_dum, (.aload_n 0, 14, 0, 0, 0, 0, 0), (.invokevirtual 47, 17, 29, 0, 0, 0, 0), am_dum, am_dum, (.aload_n 0, 18, 0, 0, 0, 0, 0), 
  (.getfield 30, 21, 4, 0, 0, 0, 0), am_dum, am_dum, (.aload_n 0, 22, 0, 0, 0, 0, 0), (.getfield 41, 25, 4, 7, 0, 0, 0), am_dum, am_dum, (.invokevirtual 54, 28, 66, 0, 1, 0, 0), am_dum, am_dum, (.bipush 34, 30, 0, 0, 0, 34, 0), 
  am_dum, (.if_icmp .ne 53, 33, 83, 0, 0, 0, 0), am_dum, am_dum, (.aload_n 0, 34, 0, 0, 0, 0, 0), (.getfield 37, 37, 4, 3, 0, 0, 0), am_dum, am_dum, (.iload_n 2, 38, 2, 0, 0, 0, 0), (.if_icmp .le 45, 41, 83, 0, 0, 0, 0), am_dum, 
  am_dum, (.aload_n 0, 42, 0, 0, 0, 0, 0), (.dup, 43, 0, 0, 0, 0, 0), (.getfield 41, 46, 4, 7, 0, 0, 0), am_dum, am_dum, (.iconst 1, 47, 0, 0, 0, 1, 0), (.iadd, 48, 0, 0, 0, 0, 0), (.putfield 41, 51, 4, 7, 0, 0, 0), am_dum, am_dum, 
  (.aload_n 0, 52, 0, 0, 0, 0, 0), (.getfield 12, 55, 4, 1, 0, 0, 0), am_dum, am_dum, (.new 72, 58, 9, 0, 0, 0, 0), am_dum, am_dum, (.dup, 59, 0, 0, 0, 0, 0), (.getstatic 94, 62, 3, 0, 0, 0, 0), am_dum, am_dum, 
  (.iload_n 1, 63, 1, 0, 0, 0, 0), (.aload_n 0, 64, 0, 0, 0, 0, 0), (.getfield 44, 67, 4, 8, 0, 0, 0), am_dum, am_dum, (.iload_n 2, 68, 2, 0, 0, 0, 0), (.aload_n 0, 69, 0, 0, 0, 0, 0), (.getfield 37, 72, 4, 3, 0, 0, 0), am_dum, 
  am_dum, (.iload_n 2, 73, 2, 0, 0, 0, 0), (.isub, 74, 0, 0, 0, 0, 0), (.invokespecial 83, 77, 26, 1, 5, 0, 0), am_dum, am_dum, (.invokevirtual 86, 80, 162, 0, 1, 0, 0), am_dum, am_dum, (.pop, 81, 0, 0, 0, 0, 0), 
  (.iconst 1, 82, 0, 0, 0, 1, 0), (.ireturn, 83, 1, 0, 0, 0, 0), (.aload_n 0, 84, 0, 0, 0, 0, 0), (.invokevirtual 66, 87, 32, 0, 0, 0, 0), am_dum, am_dum, (.lstore 4, 89, 4, 0, 0, 0, 0), am_dum, (.lload 4, 91, 4, 0, 0, 0, 0), 
  am_dum, (.lconst 0, 92, 0, 0, 0, 0, 0), (.lcmp, 93, 0, 0, 0, 0, 0), (.ifCond .ne 5, 96, 98, 0, 0, 0, 0), am_dum, am_dum, (.iconst 0, 97, 0, 0, 0, 0, 0), (.ireturn, 98, 1, 0, 0, 0, 0), (.aload_n 0, 99, 0, 0, 0, 0, 0), 
  (.lload 4, 101, 4, 0, 0, 0, 0), am_dum, (.invokevirtual 90, 104, 33, 0, 1, 0, 0), am_dum, am_dum, (.iinc 3 1, 107, 3, 0, 0, 1, 0), am_dum, am_dum, (.goto (-100), 110, 7, 0, 0, 0, 0), am_dum, am_dum, 
  (.iconst 0, 111, 0, 0, 0, 0, 0), (.ireturn, 112, 1, 0, 0, 0, 0)]
def k_Qu_readWord : List am_e := [
  (.aload_n 0, 1, 0, 0, 0, 0, 0), (.getfield 41, 4, 4, 7, 0, 0, 0), am_dum, am_dum, (.istore_n 1, 5, 1, 0, 0, 0, 0), (.aload_n 0, 6, 0, 0, 0, 0, 0), (.getfield 30, 9, 4, 0, 0, 0, 0), am_dum, am_dum, (.iload_n 1, 10, 1, 0, 0, 0, 0), 
  (.invokevirtual 97, 13, 67, 0, 1, 0, 0), am_dum, am_dum, (.istore_n 2, 14, 2, 0, 0, 0, 0), (.iload_n 2, 15, 2, 0, 0, 0, 0), (.iload_n 1, 16, 1, 0, 0, 0, 0), (.isub, 17, 0, 0, 0, 0, 0), (.bipush 12, 19, 0, 0, 0, 12, 0), am_dum, 
  (.if_icmp .le 13, 22, 32, 0, 0, 0, 0), am_dum, am_dum, (.aload_n 0, 23, 0, 0, 0, 0, 0), (.iload_n 1, 24, 1, 0, 0, 0, 0), (.bipush 12, 26, 0, 0, 0, 12, 0), am_dum, (.iadd, 27, 0, 0, 0, 0, 0), (.putfield 41, 30, 4, 7, 0, 0, 0), 
  am_dum, am_dum, (.lconst 0, 31, 0, 0, 0, 0, 0), (.lreturn, 32, 0, 0, 0, 0, 0), (.aload_n 0, 33, 0, 0, 0, 0, 0), (.iload_n 2, 34, 2, 0, 0, 0, 0), (.putfield 41, 37, 4, 7, 0, 0, 0), am_dum, am_dum, (.aload_n 0, 38, 0, 0, 0, 0, 0), 
  (.getfield 30, 41, 4, 0, 0, 0, 0), am_dum, am_dum, (.iload_n 1, 42, 1, 0, 0, 0, 0), (.iload_n 2, 43, 2, 0, 0, 0, 0), (.invokevirtual 100, 46, 68, 0, 2, 0, 0), am_dum, am_dum, (.lreturn, 47, 0, 0, 0, 0, 0)]
def k_Qu_seek : List am_e := [
  (.aload_n 0, 1, 0, 0, 0, 0, 0), (.getfield 37, 4, 4, 3, 0, 0, 0), am_dum, am_dum, (.aload_n 0, 5, 0, 0, 0, 0, 0), (.getfield 20, 8, 4, 2, 0, 0, 0), am_dum, am_dum, (.arraylength, 9, 0, 0, 0, 0, 0), 
  (.if_icmp .ge 23, 12, 32, 0, 0, 0, 0), am_dum, am_dum, (.aload_n 0, 13, 0, 0, 0, 0, 0), (.getfield 20, 16, 4, 2, 0, 0, 0), am_dum, am_dum, (.aload_n 0, 17, 0, 0, 0, 0, 0), (.getfield 37, 20, 4, 3, 0, 0, 0), am_dum, am_dum, 
  (.lload_n 1, 21, 1, 0, 0, 0, 0), (.lastore, 22, 0, 0, 0, 0, 0), (.aload_n 0, 23, 0, 0, 0, 0, 0), (.dup, 24, 0, 0, 0, 0, 0), (.getfield 37, 27, 4, 3, 0, 0, 0), am_dum, am_dum, (.iconst 1, 28, 0, 0, 0, 1, 0), 
  (.iadd, 29, 0, 0, 0, 0, 0), (.putfield 37, 32, 4, 3, 0, 0, 0), am_dum, am_dum, (.return_, 33, 0, 0, 0, 0, 0)]
def k_Qu_stemSought : List am_e := [
  (.iconst 0, 1, 0, 0, 0, 0, 0), (.istore_n 2, 2, 2, 0, 0, 0, 0), (.iload_n 2, 3, 2, 0, 0, 0, 0), (.aload_n 0, 4, 0, 0, 0, 0, 0), (.getfield 12, 7, 4, 1, 0, 0, 0), am_dum, am_dum, (.invokevirtual 104, 10, 158, 0, 0, 0, 0), am_dum, 
  am_dum, (.if_icmp .ge 87, 13, 97, 0, 0, 0, 0), am_dum, am_dum, (.aload_n 0, 14, 0, 0, 0, 0, 0), (.getfield 12, 17, 4, 1, 0, 0, 0), am_dum, am_dum, (.iload_n 2, 18, 2, 0, 0, 0, 0), (.invokevirtual 107, 21, 160, 0, 1, 0, 0), 
  am_dum, am_dum, (.checkcast 72, 24, 9, 0, 0, 0, 0), am_dum, am_dum, (.astore_n 3, 25, 3, 0, 0, 0, 0), (.aload_n 3, 26, 3, 0, 0, 0, 0), (.getfield 111, 29, 9, 3, 0, 0, 0), am_dum, am_dum, (.aload_n 3, 30, 3, 0, 0, 0, 0), 
  (.getfield 114, 33, 9, 4, 0, 0, 0), am_dum, am_dum, (.iadd, 34, 0, 0, 0, 0, 0), (.aload_n 0, 35, 0, 0, 0, 0, 0), (.getfield 20, 38, 4, 2, 0, 0, 0), am_dum, am_dum, (.arraylength, 39, 0, 0, 0, 0, 0), 
  (.invokestatic 116, 42, 0, 8, 2, 0, 0), am_dum, am_dum, (.istore 4, 44, 4, 0, 0, 0, 0), am_dum, (.aload_n 3, 45, 3, 0, 0, 0, 0), (.getfield 111, 48, 9, 3, 0, 0, 0), am_dum, am_dum, (.istore 5, 50, 5, 0, 0, 0, 0), am_dum, 
  (.iload 5, 52, 5, 0, 0, 0, 0), am_dum, (.iload 4, 54, 4, 0, 0, 0, 0), am_dum, (.if_icmp .ge 37, 57, 91, 0, 0, 0, 0), am_dum, am_dum, (.aload_n 3, 58, 3, 0, 0, 0, 0), (.getfield 122, 61, 9, 0, 0, 0, 0), am_dum, am_dum, 
  (.getstatic 74, 64, 2, 0, 0, 0, 0), am_dum, am_dum, (.if_acmp .eq 27, 67, 91, 0, 0, 0, 0), am_dum, am_dum, (.aload_n 0, 68, 0, 0, 0, 0, 0), (.getfield 20, 71, 4, 2, 0, 0, 0), am_dum, am_dum, (.iload 5, 73, 5, 0, 0, 0, 0), am_dum, 
  (.aload_n 1, 74, 1, 0, 0, 0, 0), (.aload_n 0, 75, 0, 0, 0, 0, 0), (.getfield 20, 78, 4, 2, 0, 0, 0), am_dum, am_dum, (.iload 5, 80, 5, 0, 0, 0, 0), am_dum, (.laload, 81, 0, 0, 0, 0, 0), (.invokevirtual 125, 84, 15, 0, 1, 0, 0), 
  am_dum, am_dum, (.lastore, 85, 0, 0, 0, 0, 0), (.iinc 5 1, 88, 5, 0, 0, 1, 0), am_dum, am_dum, (.goto (-38), 91, 50, 0, 0, 0, 0), am_dum, am_dum, (.iinc 2 1, 94, 2, 0, 0, 1, 0), am_dum, am_dum, (.goto (-92), 97, 2, 0, 0, 0, 0), 
  am_dum, am_dum, (.return_, 98, 0, 0, 0, 0, 0)]
def k_Qu_soughtBy : List am_e := [
  (.aload_n 1, 1, 1, 0, 0, 0, 0), (.getfield 111, 4, 9, 3, 0, 0, 0), am_dum, am_dum, (.ifCond .lt 27, 7, 31, 0, 0, 0, 0), am_dum, am_dum, (.aload_n 1, 8, 1, 0, 0, 0, 0), (.getfield 111, 11, 9, 3, 0, 0, 0), am_dum, am_dum, 
  (.aload_n 0, 12, 0, 0, 0, 0, 0), (.getfield 20, 15, 4, 2, 0, 0, 0), am_dum, am_dum, (.arraylength, 16, 0, 0, 0, 0, 0), (.if_icmp .ge 15, 19, 31, 0, 0, 0, 0), am_dum, am_dum, (.aload_n 0, 20, 0, 0, 0, 0, 0), 
  (.getfield 20, 23, 4, 2, 0, 0, 0), am_dum, am_dum, (.aload_n 1, 24, 1, 0, 0, 0, 0), (.getfield 111, 27, 9, 3, 0, 0, 0), am_dum, am_dum, (.laload, 28, 0, 0, 0, 0, 0), (.goto 4, 31, 32, 0, 0, 0, 0), am_dum, am_dum, 
  (.lconst 0, 32, 0, 0, 0, 0, 0), (.lreturn, 33, 0, 0, 0, 0, 0)]
def k_Qu_weigh : List am_e := [
  (.aload_n 0, 1, 0, 0, 0, 0, 0), (.iconst 0, 2, 0, 0, 0, 0, 0), (.putfield 131, 5, 4, 6, 0, 0, 0), am_dum, am_dum, (.iconst 0, 6, 0, 0, 0, 0, 0), (.istore 4, 8, 4, 0, 0, 0, 0), am_dum, (.iload 4, 10, 4, 0, 0, 0, 0), am_dum, 
  (.aload_n 0, 11, 0, 0, 0, 0, 0), (.getfield 12, 14, 4, 1, 0, 0, 0), am_dum, am_dum, (.invokevirtual 104, 17, 158, 0, 0, 0, 0), am_dum, am_dum, (.if_icmp .ge 146, 20, 163, 0, 0, 0, 0), am_dum, am_dum, 
  (.aload_n 0, 21, 0, 0, 0, 0, 0), (.getfield 12, 24, 4, 1, 0, 0, 0), am_dum, am_dum, (.iload 4, 26, 4, 0, 0, 0, 0), am_dum, (.invokevirtual 107, 29, 160, 0, 1, 0, 0), am_dum, am_dum, (.checkcast 72, 32, 9, 0, 0, 0, 0), am_dum, 
  am_dum, (.astore 5, 34, 5, 0, 0, 0, 0), am_dum, (.aload_n 0, 35, 0, 0, 0, 0, 0), (.aload 5, 37, 5, 0, 0, 0, 0), am_dum, (.invokevirtual 134, 40, 35, 0, 1, 0, 0), am_dum, am_dum, (.lstore 6, 42, 6, 0, 0, 0, 0), am_dum, 
  (.aload 5, 44, 5, 0, 0, 0, 0), am_dum, (.getfield 122, 47, 9, 0, 0, 0, 0), am_dum, am_dum, (.getstatic 80, 50, 1, 0, 0, 0, 0), am_dum, am_dum, (.if_acmp .ne 22, 53, 72, 0, 0, 0, 0), am_dum, am_dum, (.aload 5, 55, 5, 0, 0, 0, 0), 
  am_dum, (.getfield 138, 58, 9, 1, 0, 0, 0), am_dum, am_dum, (.ifCond .ne 14, 61, 72, 0, 0, 0, 0), am_dum, am_dum, (.lload 6, 63, 6, 0, 0, 0, 0), am_dum, (.lconst 0, 64, 0, 0, 0, 0, 0), (.lcmp, 65, 0, 0, 0, 0, 0), 
  (.ifCond .eq 7, 68, 72, 0, 0, 0, 0), am_dum, am_dum, (.iconst 1, 69, 0, 0, 0, 1, 0), (.goto 4, 72, 73, 0, 0, 0, 0), am_dum, am_dum, (.iconst 0, 73, 0, 0, 0, 0, 0), (.istore 8, 75, 8, 0, 0, 0, 0), am_dum, 
  (.iload 8, 77, 8, 0, 0, 0, 0), am_dum, (.ifCond .eq 80, 80, 157, 0, 0, 0, 0), am_dum, am_dum, (.aload_n 0, 81, 0, 0, 0, 0, 0), (.lload 6, 83, 6, 0, 0, 0, 0), am_dum, (.invokevirtual 142, 86, 37, 0, 1, 0, 0), am_dum, am_dum, 
  (.ifCond .ne 71, 89, 157, 0, 0, 0, 0), am_dum, am_dum, (.aload_n 0, 90, 0, 0, 0, 0, 0), (.getfield 131, 93, 4, 6, 0, 0, 0), am_dum, am_dum, (.aload_n 0, 94, 0, 0, 0, 0, 0), (.getfield 24, 97, 4, 4, 0, 0, 0), am_dum, am_dum, 
  (.arraylength, 98, 0, 0, 0, 0, 0), (.if_icmp .ge 59, 101, 157, 0, 0, 0, 0), am_dum, am_dum, (.aload_n 1, 102, 1, 0, 0, 0, 0), (.lload 6, 104, 6, 0, 0, 0, 0), am_dum, (.iload_n 2, 105, 2, 0, 0, 0, 0), 
  (.iload_n 3, 106, 3, 0, 0, 0, 0), (.invokevirtual 146, 109, 57, 0, 3, 0, 0), am_dum, am_dum, (.istore 9, 111, 9, 0, 0, 0, 0), am_dum, (.aload_n 0, 112, 0, 0, 0, 0, 0), (.getfield 24, 115, 4, 4, 0, 0, 0), am_dum, am_dum, 
  (.aload_n 0, 116, 0, 0, 0, 0, 0), (.getfield 131, 119, 4, 6, 0, 0, 0), am_dum, am_dum, (.lload 6, 121, 6, 0, 0, 0, 0), am_dum, (.lastore, 122, 0, 0, 0, 0, 0), (.aload_n 0, 123, 0, 0, 0, 0, 0), (.getfield 27, 126, 4, 5, 0, 0, 0), 
  am_dum, am_dum, (.aload_n 0, 127, 0, 0, 0, 0, 0), (.getfield 131, 130, 4, 6, 0, 0, 0), am_dum, am_dum, (.iload 9, 132, 9, 0, 0, 0, 0), am_dum, (.ifCond .le 13, 135, 145, 0, 0, 0, 0), am_dum, am_dum, 
  (.ldc2_w 152, 138, 0, 0, 0, 0, 5342931457063200), am_dum, am_dum, (.iload 9, 140, 9, 0, 0, 0, 0), am_dum, (.i2l, 141, 0, 0, 0, 0, 0), (.ldiv, 142, 0, 0, 0, 0, 0), (.goto 4, 145, 146, 0, 0, 0, 0), am_dum, am_dum, 
  (.lconst 0, 146, 0, 0, 0, 0, 0), (.lastore, 147, 0, 0, 0, 0, 0), (.aload_n 0, 148, 0, 0, 0, 0, 0), (.dup, 149, 0, 0, 0, 0, 0), (.getfield 131, 152, 4, 6, 0, 0, 0), am_dum, am_dum, (.iconst 1, 153, 0, 0, 0, 1, 0), 
  (.iadd, 154, 0, 0, 0, 0, 0), (.putfield 131, 157, 4, 6, 0, 0, 0), am_dum, am_dum, (.iinc 4 1, 160, 4, 0, 0, 1, 0), am_dum, am_dum, (.goto (-152), 163, 8, 0, 0, 0, 0), am_dum, am_dum, (.return_, 164, 0, 0, 0, 0, 0)]
def k_Qu_hasTerm : List am_e := [
  (.iconst 0, 1, 0, 0, 0, 0, 0), (.istore_n 3, 2, 3, 0, 0, 0, 0), (.iload_n 3, 3, 3, 0, 0, 0, 0), (.aload_n 0, 4, 0, 0, 0, 0, 0), (.getfield 131, 7, 4, 6, 0, 0, 0), am_dum, am_dum, (.if_icmp .ge 31, 10, 38, 0, 0, 0, 0), am_dum, 
  am_dum, (.iload_n 3, 11, 3, 0, 0, 0, 0), (.aload_n 0, 12, 0, 0, 0, 0, 0), (.getfield 24, 15, 4, 4, 0, 0, 0), am_dum, am_dum, (.arraylength, 16, 0, 0, 0, 0, 0), (.if_icmp .ge 22, 19, 38, 0, 0, 0, 0), am_dum, am_dum, 
  (.aload_n 0, 20, 0, 0, 0, 0, 0), (.getfield 24, 23, 4, 4, 0, 0, 0), am_dum, am_dum, (.iload_n 3, 24, 3, 0, 0, 0, 0), (.laload, 25, 0, 0, 0, 0, 0), (.lload_n 1, 26, 1, 0, 0, 0, 0), (.lcmp, 27, 0, 0, 0, 0, 0), 
  (.ifCond .ne 5, 30, 32, 0, 0, 0, 0), am_dum, am_dum, (.iconst 1, 31, 0, 0, 0, 1, 0), (.ireturn, 32, 1, 0, 0, 0, 0), (.iinc 3 1, 35, 3, 0, 0, 1, 0), am_dum, am_dum, (.goto (-33), 38, 2, 0, 0, 0, 0), am_dum, am_dum, 
  (.iconst 0, 39, 0, 0, 0, 0, 0), (.ireturn, 40, 1, 0, 0, 0, 0)]
def k_Qu_weightOf : List am_e := [
  (.lconst 0, 1, 0, 0, 0, 0, 0), (.lstore_n 3, 2, 3, 0, 0, 0, 0), (.iconst 0, 3, 0, 0, 0, 0, 0), (.istore 5, 5, 5, 0, 0, 0, 0), am_dum, (.iload 5, 7, 5, 0, 0, 0, 0), am_dum, (.aload_n 0, 8, 0, 0, 0, 0, 0), 
  (.getfield 131, 11, 4, 6, 0, 0, 0), am_dum, am_dum, (.if_icmp .ge 43, 14, 54, 0, 0, 0, 0), am_dum, am_dum, (.iload 5, 16, 5, 0, 0, 0, 0), am_dum, (.aload_n 0, 17, 0, 0, 0, 0, 0), (.getfield 24, 20, 4, 4, 0, 0, 0), am_dum, am_dum, 
  (.arraylength, 21, 0, 0, 0, 0, 0), (.if_icmp .ge 33, 24, 54, 0, 0, 0, 0), am_dum, am_dum, (.lload_n 3, 25, 3, 0, 0, 0, 0), (.aload_n 1, 26, 1, 0, 0, 0, 0), (.aload_n 0, 27, 0, 0, 0, 0, 0), (.getfield 24, 30, 4, 4, 0, 0, 0), 
  am_dum, am_dum, (.iload 5, 32, 5, 0, 0, 0, 0), am_dum, (.laload, 33, 0, 0, 0, 0, 0), (.iload_n 2, 34, 2, 0, 0, 0, 0), (.invokevirtual 154, 37, 56, 0, 2, 0, 0), am_dum, am_dum, (.i2l, 38, 0, 0, 0, 0, 0), 
  (.aload_n 0, 39, 0, 0, 0, 0, 0), (.getfield 27, 42, 4, 5, 0, 0, 0), am_dum, am_dum, (.iload 5, 44, 5, 0, 0, 0, 0), am_dum, (.laload, 45, 0, 0, 0, 0, 0), (.lmul, 46, 0, 0, 0, 0, 0), (.ladd, 47, 0, 0, 0, 0, 0), 
  (.lstore_n 3, 48, 3, 0, 0, 0, 0), (.iinc 5 1, 51, 5, 0, 0, 1, 0), am_dum, am_dum, (.goto (-46), 54, 5, 0, 0, 0, 0), am_dum, am_dum, (.lload_n 3, 55, 3, 0, 0, 0, 0), (.lreturn, 56, 0, 0, 0, 0, 0)]
def k_Qu_isAnsweredBy : List am_e := [
  (.iconst 0, 1, 0, 0, 0, 0, 0), (.istore_n 3, 2, 3, 0, 0, 0, 0), (.iconst (-1), 3, 0, 0, 0, -1, 0), (.istore 4, 5, 4, 0, 0, 0, 0), am_dum, (.iconst 0, 6, 0, 0, 0, 0, 0), (.istore 5, 8, 5, 0, 0, 0, 0), am_dum, 
  (.iload 5, 10, 5, 0, 0, 0, 0), am_dum, (.aload_n 0, 11, 0, 0, 0, 0, 0), (.getfield 12, 14, 4, 1, 0, 0, 0), am_dum, am_dum, (.invokevirtual 104, 17, 158, 0, 0, 0, 0), am_dum, am_dum, (.if_icmp .ge 70, 20, 87, 0, 0, 0, 0), am_dum, 
  am_dum, (.aload_n 0, 21, 0, 0, 0, 0, 0), (.getfield 12, 24, 4, 1, 0, 0, 0), am_dum, am_dum, (.iload 5, 26, 5, 0, 0, 0, 0), am_dum, (.invokevirtual 107, 29, 160, 0, 1, 0, 0), am_dum, am_dum, (.checkcast 72, 32, 9, 0, 0, 0, 0), 
  am_dum, am_dum, (.astore 6, 34, 6, 0, 0, 0, 0), am_dum, (.aload 6, 36, 6, 0, 0, 0, 0), am_dum, (.getfield 158, 39, 9, 2, 0, 0, 0), am_dum, am_dum, (.iload 4, 41, 4, 0, 0, 0, 0), am_dum, (.if_icmp .eq 18, 44, 59, 0, 0, 0, 0), 
  am_dum, am_dum, (.iload_n 3, 45, 3, 0, 0, 0, 0), (.ifCond .eq 5, 48, 50, 0, 0, 0, 0), am_dum, am_dum, (.iconst 1, 49, 0, 0, 0, 1, 0), (.ireturn, 50, 1, 0, 0, 0, 0), (.iconst 1, 51, 0, 0, 0, 1, 0), 
  (.istore_n 3, 52, 3, 0, 0, 0, 0), (.aload 6, 54, 6, 0, 0, 0, 0), am_dum, (.getfield 158, 57, 9, 2, 0, 0, 0), am_dum, am_dum, (.istore 4, 59, 4, 0, 0, 0, 0), am_dum, (.iload_n 3, 60, 3, 0, 0, 0, 0), 
  (.ifCond .eq 21, 63, 81, 0, 0, 0, 0), am_dum, am_dum, (.aload_n 0, 64, 0, 0, 0, 0, 0), (.aload 6, 66, 6, 0, 0, 0, 0), am_dum, (.aload_n 1, 67, 1, 0, 0, 0, 0), (.iload_n 2, 68, 2, 0, 0, 0, 0), 
  (.invokevirtual 159, 71, 40, 0, 3, 0, 0), am_dum, am_dum, (.aload 6, 73, 6, 0, 0, 0, 0), am_dum, (.getfield 138, 76, 9, 1, 0, 0, 0), am_dum, am_dum, (.if_icmp .ne 5, 79, 81, 0, 0, 0, 0), am_dum, am_dum, 
  (.iconst 0, 80, 0, 0, 0, 0, 0), (.istore_n 3, 81, 3, 0, 0, 0, 0), (.iinc 5 1, 84, 5, 0, 0, 1, 0), am_dum, am_dum, (.goto (-76), 87, 8, 0, 0, 0, 0), am_dum, am_dum, (.iload_n 3, 88, 3, 0, 0, 0, 0), (.ireturn, 89, 1, 0, 0, 0, 0)]
def k_Qu_isPartAnsweredBy : List am_e := [
  (.aload_n 1, 1, 1, 0, 0, 0, 0), (.getfield 122, 4, 9, 0, 0, 0, 0), am_dum, am_dum, (.getstatic 94, 7, 3, 0, 0, 0, 0), am_dum, am_dum, (.if_acmp .ne 21, 10, 28, 0, 0, 0, 0), am_dum, am_dum, (.aload_n 2, 11, 2, 0, 0, 0, 0), 
  (.aload_n 0, 12, 0, 0, 0, 0, 0), (.getfield 20, 15, 4, 2, 0, 0, 0), am_dum, am_dum, (.aload_n 1, 16, 1, 0, 0, 0, 0), (.getfield 111, 19, 9, 3, 0, 0, 0), am_dum, am_dum, (.aload_n 1, 20, 1, 0, 0, 0, 0), 
  (.getfield 114, 23, 9, 4, 0, 0, 0), am_dum, am_dum, (.iload_n 3, 24, 3, 0, 0, 0, 0), (.invokevirtual 163, 27, 59, 0, 4, 0, 0), am_dum, am_dum, (.ireturn, 28, 1, 0, 0, 0, 0), (.aload_n 1, 29, 1, 0, 0, 0, 0), 
  (.getfield 122, 32, 9, 0, 0, 0, 0), am_dum, am_dum, (.getstatic 74, 35, 2, 0, 0, 0, 0), am_dum, am_dum, (.if_acmp .ne 14, 38, 49, 0, 0, 0, 0), am_dum, am_dum, (.aload_n 2, 39, 2, 0, 0, 0, 0), (.aload_n 0, 40, 0, 0, 0, 0, 0), 
  (.aload_n 1, 41, 1, 0, 0, 0, 0), (.invokevirtual 134, 44, 35, 0, 1, 0, 0), am_dum, am_dum, (.iload_n 3, 45, 3, 0, 0, 0, 0), (.invokevirtual 167, 48, 58, 0, 2, 0, 0), am_dum, am_dum, (.ireturn, 49, 1, 0, 0, 0, 0), 
  (.aload_n 2, 50, 2, 0, 0, 0, 0), (.aload_n 0, 51, 0, 0, 0, 0, 0), (.aload_n 1, 52, 1, 0, 0, 0, 0), (.invokevirtual 134, 55, 35, 0, 1, 0, 0), am_dum, am_dum, (.iload_n 3, 56, 3, 0, 0, 0, 0), 
  (.invokevirtual 154, 59, 56, 0, 2, 0, 0), am_dum, am_dum, (.ifCond .le 7, 62, 66, 0, 0, 0, 0), am_dum, am_dum, (.iconst 1, 63, 0, 0, 0, 1, 0), (.goto 4, 66, 67, 0, 0, 0, 0), am_dum, am_dum, (.iconst 0, 67, 0, 0, 0, 0, 0), 
  (.ireturn, 68, 1, 0, 0, 0, 0)]
def k_Sh_init : List am_e := [
  (.aload_n 0, 1, 0, 0, 0, 0, 0), (.invokespecial 3, 4, 0, 4, 0, 0, 0), am_dum, am_dum, (.aload_n 0, 5, 0, 0, 0, 0, 0), (.bipush 40, 7, 0, 0, 0, 40, 0), am_dum, (.newarray .int, 9, 0, 0, 0, 0, 0), am_dum, 
  (.putfield 11, 12, 3, 0, 0, 0, 0), am_dum, am_dum, (.aload_n 0, 13, 0, 0, 0, 0, 0), (.bipush 40, 15, 0, 0, 0, 40, 0), am_dum, (.newarray .int, 17, 0, 0, 0, 0, 0), am_dum, (.putfield 15, 20, 3, 1, 0, 0, 0), am_dum, am_dum, 
  (.aload_n 0, 21, 0, 0, 0, 0, 0), (.bipush 40, 23, 0, 0, 0, 40, 0), am_dum, (.newarray .boolean, 25, 2, 0, 0, 0, 0), am_dum, (.putfield 18, 28, 3, 2, 0, 0, 0), am_dum, am_dum, (.aload_n 0, 29, 0, 0, 0, 0, 0), 
  (.bipush 41, 31, 0, 0, 0, 41, 0), am_dum, (.newarray .int, 33, 0, 0, 0, 0, 0), am_dum, (.putfield 22, 36, 3, 3, 0, 0, 0), am_dum, am_dum, (.aload_n 0, 37, 0, 0, 0, 0, 0), (.sipush 400, 40, 0, 0, 0, 400, 0), am_dum, am_dum, 
  (.newarray .long, 42, 3, 0, 0, 0, 0), am_dum, (.putfield 25, 45, 3, 5, 0, 0, 0), am_dum, am_dum, (.aload_n 0, 46, 0, 0, 0, 0, 0), (.sipush 400, 49, 0, 0, 0, 400, 0), am_dum, am_dum, (.newarray .long, 51, 3, 0, 0, 0, 0), am_dum, 
  (.putfield 29, 54, 3, 6, 0, 0, 0), am_dum, am_dum, (.aload_n 0, 55, 0, 0, 0, 0, 0), (.sipush 400, 58, 0, 0, 0, 400, 0), am_dum, am_dum, (.newarray .int, 60, 0, 0, 0, 0, 0), am_dum, (.putfield 32, 63, 3, 7, 0, 0, 0), am_dum, 
  am_dum, (.aload_n 0, 64, 0, 0, 0, 0, 0), (.sipush 400, 67, 0, 0, 0, 400, 0), am_dum, am_dum, (.newarray .int, 69, 0, 0, 0, 0, 0), am_dum, (.putfield 35, 72, 3, 8, 0, 0, 0), am_dum, am_dum, (.return_, 73, 0, 0, 0, 0, 0)]
def k_Sh_put : List am_e := [
  (.aload_n 0, 1, 0, 0, 0, 0, 0), (.getfield 38, 4, 3, 4, 0, 0, 0), am_dum, am_dum, (.bipush 40, 6, 0, 0, 0, 40, 0), am_dum, (.if_icmp .ge 18, 9, 24, 0, 0, 0, 0), am_dum, am_dum, (.aload_n 0, 10, 0, 0, 0, 0, 0), 
  (.getfield 42, 13, 3, 9, 0, 0, 0), am_dum, am_dum, (.aload_n 3, 14, 3, 0, 0, 0, 0), (.invokevirtual 45, 17, 71, 0, 0, 0, 0), am_dum, am_dum, (.iadd, 18, 0, 0, 0, 0, 0), (.sipush 400, 21, 0, 0, 0, 400, 0), am_dum, am_dum, 
  (.if_icmp .le 6, 24, 27, 0, 0, 0, 0), am_dum, am_dum, (.bipush (-3), 26, 0, 0, 0, -3, 0), am_dum, (.ireturn, 27, 0, 0, 0, 0, 0), (.aload_n 0, 28, 0, 0, 0, 0, 0), (.getfield 38, 31, 3, 4, 0, 0, 0), am_dum, am_dum, 
  (.istore 4, 33, 4, 0, 0, 0, 0), am_dum, (.aload_n 0, 34, 0, 0, 0, 0, 0), (.getfield 11, 37, 3, 0, 0, 0, 0), am_dum, am_dum, (.iload 4, 39, 4, 0, 0, 0, 0), am_dum, (.aload_n 1, 40, 1, 0, 0, 0, 0), 
  (.invokevirtual 50, 43, 8, 0, 0, 0, 0), am_dum, am_dum, (.iastore, 44, 0, 0, 0, 0, 0), (.aload_n 0, 45, 0, 0, 0, 0, 0), (.getfield 15, 48, 3, 1, 0, 0, 0), am_dum, am_dum, (.iload 4, 50, 4, 0, 0, 0, 0), am_dum, 
  (.iload_n 2, 51, 2, 0, 0, 0, 0), (.iastore, 52, 0, 0, 0, 0, 0), (.aload_n 0, 53, 0, 0, 0, 0, 0), (.getfield 22, 56, 3, 3, 0, 0, 0), am_dum, am_dum, (.iload 4, 58, 4, 0, 0, 0, 0), am_dum, (.aload_n 0, 59, 0, 0, 0, 0, 0), 
  (.getfield 42, 62, 3, 9, 0, 0, 0), am_dum, am_dum, (.iastore, 63, 0, 0, 0, 0, 0), (.iconst 0, 64, 0, 0, 0, 0, 0), (.istore 5, 66, 5, 0, 0, 0, 0), am_dum, (.iload 5, 68, 5, 0, 0, 0, 0), am_dum, (.aload_n 3, 69, 3, 0, 0, 0, 0), 
  (.invokevirtual 45, 72, 71, 0, 0, 0, 0), am_dum, am_dum, (.if_icmp .ge 93, 75, 165, 0, 0, 0, 0), am_dum, am_dum, (.aload_n 0, 76, 0, 0, 0, 0, 0), (.getfield 42, 79, 3, 9, 0, 0, 0), am_dum, am_dum, 
  (.sipush 400, 82, 0, 0, 0, 400, 0), am_dum, am_dum, (.if_icmp .ge 83, 85, 165, 0, 0, 0, 0), am_dum, am_dum, (.aload_n 0, 86, 0, 0, 0, 0, 0), (.getfield 25, 89, 3, 5, 0, 0, 0), am_dum, am_dum, (.aload_n 0, 90, 0, 0, 0, 0, 0), 
  (.getfield 42, 93, 3, 9, 0, 0, 0), am_dum, am_dum, (.aload_n 3, 94, 3, 0, 0, 0, 0), (.iload 5, 96, 5, 0, 0, 0, 0), am_dum, (.invokevirtual 55, 99, 73, 0, 1, 0, 0), am_dum, am_dum, (.lastore, 100, 0, 0, 0, 0, 0), 
  (.aload_n 0, 101, 0, 0, 0, 0, 0), (.getfield 29, 104, 3, 6, 0, 0, 0), am_dum, am_dum, (.aload_n 0, 105, 0, 0, 0, 0, 0), (.getfield 42, 108, 3, 9, 0, 0, 0), am_dum, am_dum, (.aload_n 1, 109, 1, 0, 0, 0, 0), 
  (.aload_n 3, 110, 3, 0, 0, 0, 0), (.iload 5, 112, 5, 0, 0, 0, 0), am_dum, (.invokevirtual 55, 115, 73, 0, 1, 0, 0), am_dum, am_dum, (.invokevirtual 59, 118, 15, 0, 1, 0, 0), am_dum, am_dum, (.lastore, 119, 0, 0, 0, 0, 0), 
  (.aload_n 0, 120, 0, 0, 0, 0, 0), (.getfield 32, 123, 3, 7, 0, 0, 0), am_dum, am_dum, (.aload_n 0, 124, 0, 0, 0, 0, 0), (.getfield 42, 127, 3, 9, 0, 0, 0), am_dum, am_dum, (.aload_n 3, 128, 3, 0, 0, 0, 0), 
  (.iload 5, 130, 5, 0, 0, 0, 0), am_dum, (.invokevirtual 63, 133, 74, 0, 1, 0, 0), am_dum, am_dum, (.iastore, 134, 0, 0, 0, 0, 0), (.aload_n 0, 135, 0, 0, 0, 0, 0), (.getfield 35, 138, 3, 8, 0, 0, 0), am_dum, am_dum, 
  (.aload_n 0, 139, 0, 0, 0, 0, 0), (.getfield 42, 142, 3, 9, 0, 0, 0), am_dum, am_dum, (.aload_n 3, 143, 3, 0, 0, 0, 0), (.iload 5, 145, 5, 0, 0, 0, 0), am_dum, (.invokevirtual 67, 148, 75, 0, 1, 0, 0), am_dum, am_dum, 
  (.iastore, 149, 0, 0, 0, 0, 0), (.aload_n 0, 150, 0, 0, 0, 0, 0), (.dup, 151, 0, 0, 0, 0, 0), (.getfield 42, 154, 3, 9, 0, 0, 0), am_dum, am_dum, (.iconst 1, 155, 0, 0, 0, 1, 0), (.iadd, 156, 0, 0, 0, 0, 0), 
  (.putfield 42, 159, 3, 9, 0, 0, 0), am_dum, am_dum, (.iinc 5 1, 162, 5, 0, 0, 1, 0), am_dum, am_dum, (.goto (-96), 165, 66, 0, 0, 0, 0), am_dum, am_dum, (.aload_n 0, 166, 0, 0, 0, 0, 0), (.dup, 167, 0, 0, 0, 0, 0), 
  (.getfield 38, 170, 3, 4, 0, 0, 0), am_dum, am_dum, (.iconst 1, 171, 0, 0, 0, 1, 0), (.iadd, 172, 0, 0, 0, 0, 0), (.putfield 38, 175, 3, 4, 0, 0, 0), am_dum, am_dum, (.aload_n 0, 176, 0, 0, 0, 0, 0), 
  (.getfield 22, 179, 3, 3, 0, 0, 0), am_dum, am_dum, (.aload_n 0, 180, 0, 0, 0, 0, 0), (.getfield 38, 183, 3, 4, 0, 0, 0), am_dum, am_dum, (.aload_n 0, 184, 0, 0, 0, 0, 0), (.getfield 42, 187, 3, 9, 0, 0, 0), am_dum, am_dum, 
  (.iastore, 188, 0, 0, 0, 0, 0), (.iload 4, 190, 4, 0, 0, 0, 0), am_dum, (.ireturn, 191, 0, 0, 0, 0, 0)]
def k_Sh_takeAway : List am_e := [
  (.aload_n 0, 1, 0, 0, 0, 0, 0), (.iload_n 1, 2, 1, 0, 0, 0, 0), (.invokevirtual 70, 5, 44, 0, 1, 0, 0), am_dum, am_dum, (.ifCond .ne 5, 8, 10, 0, 0, 0, 0), am_dum, am_dum, (.iconst 0, 9, 0, 0, 0, 0, 0), 
  (.ireturn, 10, 1, 0, 0, 0, 0), (.aload_n 0, 11, 0, 0, 0, 0, 0), (.getfield 18, 14, 3, 2, 0, 0, 0), am_dum, am_dum, (.iload_n 1, 15, 1, 0, 0, 0, 0), (.iconst 1, 16, 0, 0, 0, 1, 0), (.bastore, 17, 0, 0, 0, 0, 0), 
  (.iconst 1, 18, 0, 0, 0, 1, 0), (.ireturn, 19, 1, 0, 0, 0, 0)]
def k_Sh_has : List am_e := [
  (.iload_n 1, 1, 1, 0, 0, 0, 0), (.ifCond .lt 30, 4, 31, 0, 0, 0, 0), am_dum, am_dum, (.iload_n 1, 5, 1, 0, 0, 0, 0), (.aload_n 0, 6, 0, 0, 0, 0, 0), (.getfield 38, 9, 3, 4, 0, 0, 0), am_dum, am_dum, 
  (.if_icmp .ge 22, 12, 31, 0, 0, 0, 0), am_dum, am_dum, (.iload_n 1, 13, 1, 0, 0, 0, 0), (.bipush 40, 15, 0, 0, 0, 40, 0), am_dum, (.if_icmp .ge 16, 18, 31, 0, 0, 0, 0), am_dum, am_dum, (.aload_n 0, 19, 0, 0, 0, 0, 0), 
  (.getfield 18, 22, 3, 2, 0, 0, 0), am_dum, am_dum, (.iload_n 1, 23, 1, 0, 0, 0, 0), (.baload, 24, 0, 0, 0, 0, 0), (.ifCond .ne 7, 27, 31, 0, 0, 0, 0), am_dum, am_dum, (.iconst 1, 28, 0, 0, 0, 1, 0), (.goto 4, 31, 32, 0, 0, 0, 0), 
  am_dum, am_dum, (.iconst 0, 32, 0, 0, 0, 0, 0), (.ireturn, 33, 1, 0, 0, 0, 0)]
def k_Sh_isIn : List am_e := [
  (.aload_n 0, 1, 0, 0, 0, 0, 0), (.iload_n 1, 2, 1, 0, 0, 0, 0), (.invokevirtual 70, 5, 44, 0, 1, 0, 0), am_dum, am_dum, (.ifCond .eq 32, 8, 37, 0, 0, 0, 0), am_dum, am_dum, (.aload_n 0, 9, 0, 0, 0, 0, 0), 
  (.getfield 11, 12, 3, 0, 0, 0, 0), am_dum, am_dum, (.iload_n 1, 13, 1, 0, 0, 0, 0), (.iaload, 14, 0, 0, 0, 0, 0), (.iload_n 2, 15, 2, 0, 0, 0, 0), (.if_icmp .ne 22, 18, 37, 0, 0, 0, 0), am_dum, am_dum, 
  (.iload_n 3, 19, 3, 0, 0, 0, 0), (.iconst (-1), 20, 0, 0, 0, -1, 0), (.if_icmp .eq 13, 23, 33, 0, 0, 0, 0), am_dum, am_dum, (.aload_n 0, 24, 0, 0, 0, 0, 0), (.getfield 15, 27, 3, 1, 0, 0, 0), am_dum, am_dum, 
  (.iload_n 1, 28, 1, 0, 0, 0, 0), (.iaload, 29, 0, 0, 0, 0, 0), (.iload_n 3, 30, 3, 0, 0, 0, 0), (.if_icmp .ne 7, 33, 37, 0, 0, 0, 0), am_dum, am_dum, (.iconst 1, 34, 0, 0, 0, 1, 0), (.goto 4, 37, 38, 0, 0, 0, 0), am_dum, am_dum, 
  (.iconst 0, 38, 0, 0, 0, 0, 0), (.ireturn, 39, 1, 0, 0, 0, 0)]
def k_Sh_firstOf : List am_e := [
  (.aload_n 0, 1, 0, 0, 0, 0, 0), (.iload_n 1, 2, 1, 0, 0, 0, 0), (.invokevirtual 70, 5, 44, 0, 1, 0, 0), am_dum, am_dum, (.ifCond .eq 12, 8, 17, 0, 0, 0, 0), am_dum, am_dum, (.aload_n 0, 9, 0, 0, 0, 0, 0), 
  (.getfield 22, 12, 3, 3, 0, 0, 0), am_dum, am_dum, (.iload_n 1, 13, 1, 0, 0, 0, 0), (.iaload, 14, 0, 0, 0, 0, 0), (.goto 4, 17, 18, 0, 0, 0, 0), am_dum, am_dum, (.iconst 0, 18, 0, 0, 0, 0, 0), (.ireturn, 19, 0, 0, 0, 0, 0)]
def k_Sh_endOf : List am_e := [
  (.aload_n 0, 1, 0, 0, 0, 0, 0), (.iload_n 1, 2, 1, 0, 0, 0, 0), (.invokevirtual 70, 5, 44, 0, 1, 0, 0), am_dum, am_dum, (.ifCond .eq 20, 8, 25, 0, 0, 0, 0), am_dum, am_dum, (.aload_n 0, 9, 0, 0, 0, 0, 0), 
  (.getfield 22, 12, 3, 3, 0, 0, 0), am_dum, am_dum, (.iload_n 1, 13, 1, 0, 0, 0, 0), (.iconst 1, 14, 0, 0, 0, 1, 0), (.iadd, 15, 0, 0, 0, 0, 0), (.iaload, 16, 0, 0, 0, 0, 0), (.sipush 400, 19, 0, 0, 0, 400, 0), am_dum, am_dum, 
  (.invokestatic 74, 22, 0, 8, 2, 0, 0), am_dum, am_dum, (.goto 4, 25, 26, 0, 0, 0, 0), am_dum, am_dum, (.iconst 0, 26, 0, 0, 0, 0, 0), (.ireturn, 27, 0, 0, 0, 0, 0)]
def k_Sh_stemAgain : List am_e := [
  (.iconst 0, 1, 0, 0, 0, 0, 0), (.istore_n 2, 2, 2, 0, 0, 0, 0), (.iload_n 2, 3, 2, 0, 0, 0, 0), (.aload_n 0, 4, 0, 0, 0, 0, 0), (.getfield 38, 7, 3, 4, 0, 0, 0), am_dum, am_dum, (.if_icmp .ge 69, 10, 76, 0, 0, 0, 0), am_dum, 
  am_dum, (.aload_n 0, 11, 0, 0, 0, 0, 0), (.iload_n 2, 12, 2, 0, 0, 0, 0), (.aload_n 1, 13, 1, 0, 0, 0, 0), (.invokevirtual 50, 16, 8, 0, 0, 0, 0), am_dum, am_dum, (.iconst (-1), 17, 0, 0, 0, -1, 0), 
  (.invokevirtual 80, 20, 45, 0, 3, 0, 0), am_dum, am_dum, (.ifCond .eq 11, 23, 31, 0, 0, 0, 0), am_dum, am_dum, (.aload_n 0, 24, 0, 0, 0, 0, 0), (.iload_n 2, 25, 2, 0, 0, 0, 0), (.invokevirtual 84, 28, 47, 0, 1, 0, 0), am_dum, 
  am_dum, (.goto 4, 31, 32, 0, 0, 0, 0), am_dum, am_dum, (.iconst 0, 32, 0, 0, 0, 0, 0), (.istore_n 3, 33, 3, 0, 0, 0, 0), (.aload_n 0, 34, 0, 0, 0, 0, 0), (.iload_n 2, 35, 2, 0, 0, 0, 0), (.invokevirtual 87, 38, 46, 0, 1, 0, 0), 
  am_dum, am_dum, (.istore 4, 40, 4, 0, 0, 0, 0), am_dum, (.iload 4, 42, 4, 0, 0, 0, 0), am_dum, (.iload_n 3, 43, 3, 0, 0, 0, 0), (.if_icmp .ge 27, 46, 70, 0, 0, 0, 0), am_dum, am_dum, (.aload_n 0, 47, 0, 0, 0, 0, 0), 
  (.getfield 29, 50, 3, 6, 0, 0, 0), am_dum, am_dum, (.iload 4, 52, 4, 0, 0, 0, 0), am_dum, (.aload_n 1, 53, 1, 0, 0, 0, 0), (.aload_n 0, 54, 0, 0, 0, 0, 0), (.getfield 25, 57, 3, 5, 0, 0, 0), am_dum, am_dum, 
  (.iload 4, 59, 4, 0, 0, 0, 0), am_dum, (.laload, 60, 0, 0, 0, 0, 0), (.invokevirtual 59, 63, 15, 0, 1, 0, 0), am_dum, am_dum, (.lastore, 64, 0, 0, 0, 0, 0), (.iinc 4 1, 67, 4, 0, 0, 1, 0), am_dum, am_dum, 
  (.goto (-27), 70, 40, 0, 0, 0, 0), am_dum, am_dum, (.iinc 2 1, 73, 2, 0, 0, 1, 0), am_dum, am_dum, (.goto (-71), 76, 2, 0, 0, 0, 0), am_dum, am_dum, (.return_, 77, 0, 0, 0, 0, 0)]
def k_Sh_hasPlace : List am_e := [
  (.aload_n 0, 1, 0, 0, 0, 0, 0), (.iload_n 1, 2, 1, 0, 0, 0, 0), (.invokevirtual 70, 5, 44, 0, 1, 0, 0), am_dum, am_dum, (.ifCond .eq 26, 8, 31, 0, 0, 0, 0), am_dum, am_dum, (.iload_n 2, 9, 2, 0, 0, 0, 0), 
  (.ifCond .lt 22, 12, 31, 0, 0, 0, 0), am_dum, am_dum, (.iload_n 2, 13, 2, 0, 0, 0, 0), (.aload_n 0, 14, 0, 0, 0, 0, 0), (.iload_n 1, 15, 1, 0, 0, 0, 0), (.invokevirtual 84, 18, 47, 0, 1, 0, 0), am_dum, am_dum, 
  (.aload_n 0, 19, 0, 0, 0, 0, 0), (.iload_n 1, 20, 1, 0, 0, 0, 0), (.invokevirtual 87, 23, 46, 0, 1, 0, 0), am_dum, am_dum, (.isub, 24, 0, 0, 0, 0, 0), (.if_icmp .ge 7, 27, 31, 0, 0, 0, 0), am_dum, am_dum, 
  (.iconst 1, 28, 0, 0, 0, 1, 0), (.goto 4, 31, 32, 0, 0, 0, 0), am_dum, am_dum, (.iconst 0, 32, 0, 0, 0, 0, 0), (.ireturn, 33, 1, 0, 0, 0, 0)]
def k_Sh_startOf : List am_e := [
  (.aload_n 0, 1, 0, 0, 0, 0, 0), (.iload_n 1, 2, 1, 0, 0, 0, 0), (.iload_n 2, 3, 2, 0, 0, 0, 0), (.invokevirtual 90, 6, 49, 0, 2, 0, 0), am_dum, am_dum, (.ifCond .eq 18, 9, 24, 0, 0, 0, 0), am_dum, am_dum, 
  (.aload_n 0, 10, 0, 0, 0, 0, 0), (.getfield 32, 13, 3, 7, 0, 0, 0), am_dum, am_dum, (.aload_n 0, 14, 0, 0, 0, 0, 0), (.iload_n 1, 15, 1, 0, 0, 0, 0), (.invokevirtual 87, 18, 46, 0, 1, 0, 0), am_dum, am_dum, 
  (.iload_n 2, 19, 2, 0, 0, 0, 0), (.iadd, 20, 0, 0, 0, 0, 0), (.iaload, 21, 0, 0, 0, 0, 0), (.goto 4, 24, 25, 0, 0, 0, 0), am_dum, am_dum, (.iconst (-1), 25, 0, 0, 0, -1, 0), (.ireturn, 26, 0, 0, 0, 0, 0)]
def k_Sh_sizeOf : List am_e := [
  (.aload_n 0, 1, 0, 0, 0, 0, 0), (.iload_n 1, 2, 1, 0, 0, 0, 0), (.iload_n 2, 3, 2, 0, 0, 0, 0), (.invokevirtual 90, 6, 49, 0, 2, 0, 0), am_dum, am_dum, (.ifCond .eq 18, 9, 24, 0, 0, 0, 0), am_dum, am_dum, 
  (.aload_n 0, 10, 0, 0, 0, 0, 0), (.getfield 35, 13, 3, 8, 0, 0, 0), am_dum, am_dum, (.aload_n 0, 14, 0, 0, 0, 0, 0), (.iload_n 1, 15, 1, 0, 0, 0, 0), (.invokevirtual 87, 18, 46, 0, 1, 0, 0), am_dum, am_dum, 
  (.iload_n 2, 19, 2, 0, 0, 0, 0), (.iadd, 20, 0, 0, 0, 0, 0), (.iaload, 21, 0, 0, 0, 0, 0), (.goto 4, 24, 25, 0, 0, 0, 0), am_dum, am_dum, (.iconst (-1), 25, 0, 0, 0, -1, 0), (.ireturn, 26, 0, 0, 0, 0, 0)]
def k_Sh_countTexts : List am_e := [
  (.iconst 0, 1, 0, 0, 0, 0, 0), (.istore_n 1, 2, 1, 0, 0, 0, 0), (.iconst 0, 3, 0, 0, 0, 0, 0), (.istore_n 2, 4, 2, 0, 0, 0, 0), (.iload_n 2, 5, 2, 0, 0, 0, 0), (.aload_n 0, 6, 0, 0, 0, 0, 0), (.getfield 38, 9, 3, 4, 0, 0, 0), 
  am_dum, am_dum, (.if_icmp .ge 20, 12, 29, 0, 0, 0, 0), am_dum, am_dum, (.aload_n 0, 13, 0, 0, 0, 0, 0), (.iload_n 2, 14, 2, 0, 0, 0, 0), (.invokevirtual 70, 17, 44, 0, 1, 0, 0), am_dum, am_dum, 
  (.ifCond .eq 6, 20, 23, 0, 0, 0, 0), am_dum, am_dum, (.iinc 1 1, 23, 1, 0, 0, 1, 0), am_dum, am_dum, (.iinc 2 1, 26, 2, 0, 0, 1, 0), am_dum, am_dum, (.goto (-22), 29, 4, 0, 0, 0, 0), am_dum, am_dum, 
  (.iload_n 1, 30, 1, 0, 0, 0, 0), (.ireturn, 31, 0, 0, 0, 0, 0)]
def k_Sh_countStems : List am_e := [
  (.iconst 0, 1, 0, 0, 0, 0, 0), (.istore_n 2, 2, 2, 0, 0, 0, 0), (.iconst 0, 3, 0, 0, 0, 0, 0), (.istore_n 3, 4, 3, 0, 0, 0, 0), (.iload_n 3, 5, 3, 0, 0, 0, 0), (.aload_n 0, 6, 0, 0, 0, 0, 0), (.getfield 38, 9, 3, 4, 0, 0, 0), 
  am_dum, am_dum, (.if_icmp .ge 28, 12, 37, 0, 0, 0, 0), am_dum, am_dum, (.aload_n 0, 13, 0, 0, 0, 0, 0), (.iload_n 3, 14, 3, 0, 0, 0, 0), (.iload_n 1, 15, 1, 0, 0, 0, 0), (.iconst (-1), 16, 0, 0, 0, -1, 0), 
  (.invokevirtual 80, 19, 45, 0, 3, 0, 0), am_dum, am_dum, (.ifCond .eq 12, 22, 31, 0, 0, 0, 0), am_dum, am_dum, (.iload_n 2, 23, 2, 0, 0, 0, 0), (.aload_n 0, 24, 0, 0, 0, 0, 0), (.iload_n 3, 25, 3, 0, 0, 0, 0), 
  (.iload_n 1, 26, 1, 0, 0, 0, 0), (.invokevirtual 94, 29, 54, 0, 2, 0, 0), am_dum, am_dum, (.iadd, 30, 0, 0, 0, 0, 0), (.istore_n 2, 31, 2, 0, 0, 0, 0), (.iinc 3 1, 34, 3, 0, 0, 1, 0), am_dum, am_dum, 
  (.goto (-30), 37, 4, 0, 0, 0, 0), am_dum, am_dum, (.iload_n 2, 38, 2, 0, 0, 0, 0), (.ireturn, 39, 0, 0, 0, 0, 0)]
def k_Sh_countNewStems : List am_e := [
  (.iconst 0, 1, 0, 0, 0, 0, 0), (.istore_n 3, 2, 3, 0, 0, 0, 0), (.aload_n 0, 3, 0, 0, 0, 0, 0), (.iload_n 1, 4, 1, 0, 0, 0, 0), (.invokevirtual 84, 7, 47, 0, 1, 0, 0), am_dum, am_dum, (.istore 4, 9, 4, 0, 0, 0, 0), am_dum, 
  (.aload_n 0, 10, 0, 0, 0, 0, 0), (.iload_n 1, 11, 1, 0, 0, 0, 0), (.invokevirtual 87, 14, 46, 0, 1, 0, 0), am_dum, am_dum, (.istore 5, 16, 5, 0, 0, 0, 0), am_dum, (.iload 5, 18, 5, 0, 0, 0, 0), am_dum, 
  (.iload 4, 20, 4, 0, 0, 0, 0), am_dum, (.if_icmp .ge 35, 23, 55, 0, 0, 0, 0), am_dum, am_dum, (.aload_n 0, 24, 0, 0, 0, 0, 0), (.getfield 29, 27, 3, 6, 0, 0, 0), am_dum, am_dum, (.iload 5, 29, 5, 0, 0, 0, 0), am_dum, 
  (.laload, 30, 0, 0, 0, 0, 0), (.lconst 0, 31, 0, 0, 0, 0, 0), (.lcmp, 32, 0, 0, 0, 0, 0), (.ifCond .eq 17, 35, 49, 0, 0, 0, 0), am_dum, am_dum, (.aload_n 0, 36, 0, 0, 0, 0, 0), (.iload 5, 38, 5, 0, 0, 0, 0), am_dum, 
  (.iload_n 1, 39, 1, 0, 0, 0, 0), (.iload_n 2, 40, 2, 0, 0, 0, 0), (.invokevirtual 99, 43, 55, 0, 3, 0, 0), am_dum, am_dum, (.ifCond .ne 6, 46, 49, 0, 0, 0, 0), am_dum, am_dum, (.iinc 3 1, 49, 3, 0, 0, 1, 0), am_dum, am_dum, 
  (.iinc 5 1, 52, 5, 0, 0, 1, 0), am_dum, am_dum, (.goto (-36), 55, 16, 0, 0, 0, 0), am_dum, am_dum, (.iload_n 3, 56, 3, 0, 0, 0, 0), (.ireturn, 57, 0, 0, 0, 0, 0)]
def k_Sh_hasEarlier : List am_e := [
  (.iconst 0, 1, 0, 0, 0, 0, 0), (.istore 4, 3, 4, 0, 0, 0, 0), am_dum, (.iload 4, 5, 4, 0, 0, 0, 0), am_dum, (.iload_n 2, 6, 2, 0, 0, 0, 0), (.if_icmp .gt 72, 9, 78, 0, 0, 0, 0), am_dum, am_dum, (.aload_n 0, 10, 0, 0, 0, 0, 0), 
  (.iload 4, 12, 4, 0, 0, 0, 0), am_dum, (.iload_n 3, 13, 3, 0, 0, 0, 0), (.iconst (-1), 14, 0, 0, 0, -1, 0), (.invokevirtual 80, 17, 45, 0, 3, 0, 0), am_dum, am_dum, (.ifCond .eq 55, 20, 72, 0, 0, 0, 0), am_dum, am_dum, 
  (.iload_n 1, 21, 1, 0, 0, 0, 0), (.aload_n 0, 22, 0, 0, 0, 0, 0), (.iload 4, 24, 4, 0, 0, 0, 0), am_dum, (.invokevirtual 84, 27, 47, 0, 1, 0, 0), am_dum, am_dum, (.invokestatic 74, 30, 0, 8, 2, 0, 0), am_dum, am_dum, 
  (.istore 5, 32, 5, 0, 0, 0, 0), am_dum, (.aload_n 0, 33, 0, 0, 0, 0, 0), (.iload 4, 35, 4, 0, 0, 0, 0), am_dum, (.invokevirtual 87, 38, 46, 0, 1, 0, 0), am_dum, am_dum, (.istore 6, 40, 6, 0, 0, 0, 0), am_dum, 
  (.iload 6, 42, 6, 0, 0, 0, 0), am_dum, (.iload 5, 44, 5, 0, 0, 0, 0), am_dum, (.if_icmp .ge 28, 47, 72, 0, 0, 0, 0), am_dum, am_dum, (.aload_n 0, 48, 0, 0, 0, 0, 0), (.getfield 29, 51, 3, 6, 0, 0, 0), am_dum, am_dum, 
  (.iload 6, 53, 6, 0, 0, 0, 0), am_dum, (.laload, 54, 0, 0, 0, 0, 0), (.aload_n 0, 55, 0, 0, 0, 0, 0), (.getfield 29, 58, 3, 6, 0, 0, 0), am_dum, am_dum, (.iload_n 1, 59, 1, 0, 0, 0, 0), (.laload, 60, 0, 0, 0, 0, 0), 
  (.lcmp, 61, 0, 0, 0, 0, 0), (.ifCond .ne 5, 64, 66, 0, 0, 0, 0), am_dum, am_dum, (.iconst 1, 65, 0, 0, 0, 1, 0), (.ireturn, 66, 1, 0, 0, 0, 0), (.iinc 6 1, 69, 6, 0, 0, 1, 0), am_dum, am_dum, (.goto (-29), 72, 40, 0, 0, 0, 0), 
  am_dum, am_dum, (.iinc 4 1, 75, 4, 0, 0, 1, 0), am_dum, am_dum, (.goto (-72), 78, 3, 0, 0, 0, 0), am_dum, am_dum, (.iconst 0, 79, 0, 0, 0, 0, 0), (.ireturn, 80, 1, 0, 0, 0, 0)]
def k_Sh_timesOf : List am_e := [
  (.iconst 0, 1, 0, 0, 0, 0, 0), (.istore 4, 3, 4, 0, 0, 0, 0), am_dum, (.aload_n 0, 4, 0, 0, 0, 0, 0), (.iload_n 3, 5, 3, 0, 0, 0, 0), (.invokevirtual 84, 8, 47, 0, 1, 0, 0), am_dum, am_dum, (.istore 5, 10, 5, 0, 0, 0, 0), am_dum, 
  (.aload_n 0, 11, 0, 0, 0, 0, 0), (.iload_n 3, 12, 3, 0, 0, 0, 0), (.invokevirtual 87, 15, 46, 0, 1, 0, 0), am_dum, am_dum, (.istore 6, 17, 6, 0, 0, 0, 0), am_dum, (.iload 6, 19, 6, 0, 0, 0, 0), am_dum, 
  (.iload 5, 21, 5, 0, 0, 0, 0), am_dum, (.if_icmp .ge 30, 24, 51, 0, 0, 0, 0), am_dum, am_dum, (.lload_n 1, 25, 1, 0, 0, 0, 0), (.lconst 0, 26, 0, 0, 0, 0, 0), (.lcmp, 27, 0, 0, 0, 0, 0), (.ifCond .eq 18, 30, 45, 0, 0, 0, 0), 
  am_dum, am_dum, (.aload_n 0, 31, 0, 0, 0, 0, 0), (.getfield 29, 34, 3, 6, 0, 0, 0), am_dum, am_dum, (.iload 6, 36, 6, 0, 0, 0, 0), am_dum, (.laload, 37, 0, 0, 0, 0, 0), (.lload_n 1, 38, 1, 0, 0, 0, 0), (.lcmp, 39, 0, 0, 0, 0, 0), 
  (.ifCond .ne 6, 42, 45, 0, 0, 0, 0), am_dum, am_dum, (.iinc 4 1, 45, 4, 0, 0, 1, 0), am_dum, am_dum, (.iinc 6 1, 48, 6, 0, 0, 1, 0), am_dum, am_dum, (.goto (-31), 51, 17, 0, 0, 0, 0), am_dum, am_dum, 
  (.iload 4, 53, 4, 0, 0, 0, 0), am_dum, (.ireturn, 54, 0, 0, 0, 0, 0)]
def k_Sh_countTextsWith : List am_e := [
  (.iconst 0, 1, 0, 0, 0, 0, 0), (.istore 5, 3, 5, 0, 0, 0, 0), am_dum, (.iconst 0, 4, 0, 0, 0, 0, 0), (.istore 6, 6, 6, 0, 0, 0, 0), am_dum, (.iload 6, 8, 6, 0, 0, 0, 0), am_dum, (.aload_n 0, 9, 0, 0, 0, 0, 0), 
  (.getfield 38, 12, 3, 4, 0, 0, 0), am_dum, am_dum, (.if_icmp .ge 34, 15, 46, 0, 0, 0, 0), am_dum, am_dum, (.aload_n 0, 16, 0, 0, 0, 0, 0), (.iload 6, 18, 6, 0, 0, 0, 0), am_dum, (.iload_n 3, 19, 3, 0, 0, 0, 0), 
  (.iload 4, 21, 4, 0, 0, 0, 0), am_dum, (.invokevirtual 80, 24, 45, 0, 3, 0, 0), am_dum, am_dum, (.ifCond .eq 16, 27, 40, 0, 0, 0, 0), am_dum, am_dum, (.aload_n 0, 28, 0, 0, 0, 0, 0), (.lload_n 1, 29, 1, 0, 0, 0, 0), 
  (.iload 6, 31, 6, 0, 0, 0, 0), am_dum, (.invokevirtual 102, 34, 56, 0, 2, 0, 0), am_dum, am_dum, (.ifCond .le 6, 37, 40, 0, 0, 0, 0), am_dum, am_dum, (.iinc 5 1, 40, 5, 0, 0, 1, 0), am_dum, am_dum, (.iinc 6 1, 43, 6, 0, 0, 1, 0), 
  am_dum, am_dum, (.goto (-37), 46, 6, 0, 0, 0, 0), am_dum, am_dum, (.iload 5, 48, 5, 0, 0, 0, 0), am_dum, (.ireturn, 49, 0, 0, 0, 0, 0)]
def k_Sh_hasBeginning : List am_e := [
  (.aload_n 0, 1, 0, 0, 0, 0, 0), (.iload_n 3, 2, 3, 0, 0, 0, 0), (.invokevirtual 84, 5, 47, 0, 1, 0, 0), am_dum, am_dum, (.istore 4, 7, 4, 0, 0, 0, 0), am_dum, (.aload_n 0, 8, 0, 0, 0, 0, 0), (.iload_n 3, 9, 3, 0, 0, 0, 0), 
  (.invokevirtual 87, 12, 46, 0, 1, 0, 0), am_dum, am_dum, (.istore 5, 14, 5, 0, 0, 0, 0), am_dum, (.iload 5, 16, 5, 0, 0, 0, 0), am_dum, (.iload 4, 18, 4, 0, 0, 0, 0), am_dum, (.if_icmp .ge 37, 21, 55, 0, 0, 0, 0), am_dum, am_dum, 
  (.aload_n 0, 22, 0, 0, 0, 0, 0), (.getfield 29, 25, 3, 6, 0, 0, 0), am_dum, am_dum, (.iload 5, 27, 5, 0, 0, 0, 0), am_dum, (.laload, 28, 0, 0, 0, 0, 0), (.lconst 0, 29, 0, 0, 0, 0, 0), (.lcmp, 30, 0, 0, 0, 0, 0), 
  (.ifCond .eq 19, 33, 49, 0, 0, 0, 0), am_dum, am_dum, (.lload_n 1, 34, 1, 0, 0, 0, 0), (.aload_n 0, 35, 0, 0, 0, 0, 0), (.getfield 29, 38, 3, 6, 0, 0, 0), am_dum, am_dum, (.iload 5, 40, 5, 0, 0, 0, 0), am_dum, 
  (.laload, 41, 0, 0, 0, 0, 0), (.invokestatic 106, 44, 82, 3, 2, 0, 0), am_dum, am_dum, (.ifCond .eq 5, 47, 49, 0, 0, 0, 0), am_dum, am_dum, (.iconst 1, 48, 0, 0, 0, 1, 0), (.ireturn, 49, 1, 0, 0, 0, 0), 
  (.iinc 5 1, 52, 5, 0, 0, 1, 0), am_dum, am_dum, (.goto (-38), 55, 14, 0, 0, 0, 0), am_dum, am_dum, (.iconst 0, 56, 0, 0, 0, 0, 0), (.ireturn, 57, 1, 0, 0, 0, 0)]
def k_Sh_hasPhrase : List am_e := [
  (.aload_n 0, 1, 0, 0, 0, 0, 0), (.iload 4, 3, 4, 0, 0, 0, 0), am_dum, (.invokevirtual 84, 6, 47, 0, 1, 0, 0), am_dum, am_dum, (.istore 5, 8, 5, 0, 0, 0, 0), am_dum, (.aload_n 0, 9, 0, 0, 0, 0, 0), (.iload 4, 11, 4, 0, 0, 0, 0), 
  am_dum, (.invokevirtual 87, 14, 46, 0, 1, 0, 0), am_dum, am_dum, (.istore 6, 16, 6, 0, 0, 0, 0), am_dum, (.iload 6, 18, 6, 0, 0, 0, 0), am_dum, (.iload_n 3, 19, 3, 0, 0, 0, 0), (.iadd, 20, 0, 0, 0, 0, 0), 
  (.iload 5, 22, 5, 0, 0, 0, 0), am_dum, (.if_icmp .gt 23, 25, 45, 0, 0, 0, 0), am_dum, am_dum, (.aload_n 0, 26, 0, 0, 0, 0, 0), (.iload 6, 28, 6, 0, 0, 0, 0), am_dum, (.aload_n 1, 29, 1, 0, 0, 0, 0), 
  (.iload_n 2, 30, 2, 0, 0, 0, 0), (.iload_n 3, 31, 3, 0, 0, 0, 0), (.invokevirtual 110, 34, 60, 0, 4, 0, 0), am_dum, am_dum, (.ifCond .eq 5, 37, 39, 0, 0, 0, 0), am_dum, am_dum, (.iconst 1, 38, 0, 0, 0, 1, 0), 
  (.ireturn, 39, 1, 0, 0, 0, 0), (.iinc 6 1, 42, 6, 0, 0, 1, 0), am_dum, am_dum, (.goto (-26), 45, 16, 0, 0, 0, 0), am_dum, am_dum, (.iconst 0, 46, 0, 0, 0, 0, 0), (.ireturn, 47, 1, 0, 0, 0, 0)]
def k_Sh_standsAt : List am_e := [
  (.iconst 0, 1, 0, 0, 0, 0, 0), (.istore 5, 3, 5, 0, 0, 0, 0), am_dum, (.iload 5, 5, 5, 0, 0, 0, 0), am_dum, (.iload 4, 7, 4, 0, 0, 0, 0), am_dum, (.if_icmp .ge 64, 10, 71, 0, 0, 0, 0), am_dum, am_dum, 
  (.iload_n 3, 11, 3, 0, 0, 0, 0), (.iload 5, 13, 5, 0, 0, 0, 0), am_dum, (.iadd, 14, 0, 0, 0, 0, 0), (.aload_n 2, 15, 2, 0, 0, 0, 0), (.arraylength, 16, 0, 0, 0, 0, 0), (.if_icmp .ge 15, 19, 31, 0, 0, 0, 0), am_dum, am_dum, 
  (.iload_n 1, 20, 1, 0, 0, 0, 0), (.iload 5, 22, 5, 0, 0, 0, 0), am_dum, (.iadd, 23, 0, 0, 0, 0, 0), (.aload_n 0, 24, 0, 0, 0, 0, 0), (.getfield 29, 27, 3, 6, 0, 0, 0), am_dum, am_dum, (.arraylength, 28, 0, 0, 0, 0, 0), 
  (.if_icmp .lt 5, 31, 33, 0, 0, 0, 0), am_dum, am_dum, (.iconst 0, 32, 0, 0, 0, 0, 0), (.ireturn, 33, 1, 0, 0, 0, 0), (.aload_n 2, 34, 2, 0, 0, 0, 0), (.iload_n 3, 35, 3, 0, 0, 0, 0), (.iload 5, 37, 5, 0, 0, 0, 0), am_dum, 
  (.iadd, 38, 0, 0, 0, 0, 0), (.laload, 39, 0, 0, 0, 0, 0), (.lstore 6, 41, 6, 0, 0, 0, 0), am_dum, (.lload 6, 43, 6, 0, 0, 0, 0), am_dum, (.lconst 0, 44, 0, 0, 0, 0, 0), (.lcmp, 45, 0, 0, 0, 0, 0), 
  (.ifCond .eq 20, 48, 65, 0, 0, 0, 0), am_dum, am_dum, (.aload_n 0, 49, 0, 0, 0, 0, 0), (.getfield 29, 52, 3, 6, 0, 0, 0), am_dum, am_dum, (.iload_n 1, 53, 1, 0, 0, 0, 0), (.iload 5, 55, 5, 0, 0, 0, 0), am_dum, 
  (.iadd, 56, 0, 0, 0, 0, 0), (.laload, 57, 0, 0, 0, 0, 0), (.lload 6, 59, 6, 0, 0, 0, 0), am_dum, (.lcmp, 60, 0, 0, 0, 0, 0), (.ifCond .eq 5, 63, 65, 0, 0, 0, 0), am_dum, am_dum, (.iconst 0, 64, 0, 0, 0, 0, 0), 
  (.ireturn, 65, 1, 0, 0, 0, 0), (.iinc 5 1, 68, 5, 0, 0, 1, 0), am_dum, am_dum, (.goto (-65), 71, 3, 0, 0, 0, 0), am_dum, am_dum, (.iconst 1, 72, 0, 0, 0, 1, 0), (.ireturn, 73, 1, 0, 0, 0, 0)]
def k_Sh_wordUnlessStop : List am_e := [
  (.iload_n 1, 1, 1, 0, 0, 0, 0), (.ifCond .lt 22, 4, 23, 0, 0, 0, 0), am_dum, am_dum, (.iload_n 1, 5, 1, 0, 0, 0, 0), (.aload_n 0, 6, 0, 0, 0, 0, 0), (.getfield 42, 9, 3, 9, 0, 0, 0), am_dum, am_dum, 
  (.if_icmp .ge 14, 12, 23, 0, 0, 0, 0), am_dum, am_dum, (.iload_n 1, 13, 1, 0, 0, 0, 0), (.sipush 400, 16, 0, 0, 0, 400, 0), am_dum, am_dum, (.if_icmp .ge 7, 19, 23, 0, 0, 0, 0), am_dum, am_dum, (.iconst 1, 20, 0, 0, 0, 1, 0), 
  (.goto 4, 23, 24, 0, 0, 0, 0), am_dum, am_dum, (.iconst 0, 24, 0, 0, 0, 0, 0), (.istore_n 2, 25, 2, 0, 0, 0, 0), (.iload_n 2, 26, 2, 0, 0, 0, 0), (.ifCond .eq 23, 29, 49, 0, 0, 0, 0), am_dum, am_dum, 
  (.aload_n 0, 30, 0, 0, 0, 0, 0), (.getfield 29, 33, 3, 6, 0, 0, 0), am_dum, am_dum, (.iload_n 1, 34, 1, 0, 0, 0, 0), (.laload, 35, 0, 0, 0, 0, 0), (.lconst 0, 36, 0, 0, 0, 0, 0), (.lcmp, 37, 0, 0, 0, 0, 0), 
  (.ifCond .eq 12, 40, 49, 0, 0, 0, 0), am_dum, am_dum, (.aload_n 0, 41, 0, 0, 0, 0, 0), (.getfield 25, 44, 3, 5, 0, 0, 0), am_dum, am_dum, (.iload_n 1, 45, 1, 0, 0, 0, 0), (.laload, 46, 0, 0, 0, 0, 0), 
  (.goto 4, 49, 50, 0, 0, 0, 0), am_dum, am_dum, (.lconst 0, 50, 0, 0, 0, 0, 0), (.lreturn, 51, 0, 0, 0, 0, 0)]
def k_Ta_init : List am_e := [
  (.aload_n 0, 1, 0, 0, 0, 0, 0), (.invokespecial 1, 4, 0, 4, 0, 0, 0), am_dum, am_dum, (.aload_n 0, 5, 0, 0, 0, 0, 0), (.bipush 96, 7, 0, 0, 0, 96, 0), am_dum, (.newarray .int, 9, 0, 0, 0, 0, 0), am_dum, 
  (.putfield 9, 12, 1, 0, 0, 0, 0), am_dum, am_dum, (.aload_n 0, 13, 0, 0, 0, 0, 0), (.bipush 48, 15, 0, 0, 0, 48, 0), am_dum, (.newarray .long, 17, 3, 0, 0, 0, 0), am_dum, (.putfield 13, 20, 1, 2, 0, 0, 0), am_dum, am_dum, 
  (.aload_n 0, 21, 0, 0, 0, 0, 0), (.bipush 48, 23, 0, 0, 0, 48, 0), am_dum, (.newarray .int, 25, 0, 0, 0, 0, 0), am_dum, (.putfield 17, 28, 1, 3, 0, 0, 0), am_dum, am_dum, (.aload_n 0, 29, 0, 0, 0, 0, 0), 
  (.bipush 48, 31, 0, 0, 0, 48, 0), am_dum, (.newarray .int, 33, 0, 0, 0, 0, 0), am_dum, (.putfield 20, 36, 1, 4, 0, 0, 0), am_dum, am_dum, (.return_, 37, 0, 0, 0, 0, 0)]
def k_Ta_length : List am_e := [
  (.aload_n 0, 1, 0, 0, 0, 0, 0), (.getfield 23, 4, 1, 1, 0, 0, 0), am_dum, am_dum, (.ireturn, 5, 0, 0, 0, 0, 0)]
def k_Ta_append : List am_e := [
  (.aload_n 0, 1, 0, 0, 0, 0, 0), (.getfield 23, 4, 1, 1, 0, 0, 0), am_dum, am_dum, (.iload_n 3, 5, 3, 0, 0, 0, 0), (.iadd, 6, 0, 0, 0, 0, 0), (.bipush 96, 8, 0, 0, 0, 96, 0), am_dum, (.if_icmp .le 5, 11, 13, 0, 0, 0, 0), am_dum, 
  am_dum, (.iconst 0, 12, 0, 0, 0, 0, 0), (.ireturn, 13, 1, 0, 0, 0, 0), (.iload_n 3, 14, 3, 0, 0, 0, 0), (.iconst 1, 15, 0, 0, 0, 1, 0), (.isub, 16, 0, 0, 0, 0, 0), (.istore 4, 18, 4, 0, 0, 0, 0), am_dum, 
  (.iload 4, 20, 4, 0, 0, 0, 0), am_dum, (.ifCond .lt 52, 23, 72, 0, 0, 0, 0), am_dum, am_dum, (.aload_n 0, 24, 0, 0, 0, 0, 0), (.getfield 23, 27, 1, 1, 0, 0, 0), am_dum, am_dum, (.aload_n 0, 28, 0, 0, 0, 0, 0), 
  (.getfield 9, 31, 1, 0, 0, 0, 0), am_dum, am_dum, (.arraylength, 32, 0, 0, 0, 0, 0), (.if_icmp .ge 40, 35, 72, 0, 0, 0, 0), am_dum, am_dum, (.aload_n 0, 36, 0, 0, 0, 0, 0), (.getfield 9, 39, 1, 0, 0, 0, 0), am_dum, am_dum, 
  (.aload_n 0, 40, 0, 0, 0, 0, 0), (.getfield 23, 43, 1, 1, 0, 0, 0), am_dum, am_dum, (.lload_n 1, 44, 1, 0, 0, 0, 0), (.bipush 8, 46, 0, 0, 0, 8, 0), am_dum, (.iload 4, 48, 4, 0, 0, 0, 0), am_dum, (.imul, 49, 0, 0, 0, 0, 0), 
  (.lushr, 50, 0, 0, 0, 0, 0), (.ldc2_w 27, 53, 0, 0, 0, 0, 255), am_dum, am_dum, (.land, 54, 0, 0, 0, 0, 0), (.l2i, 55, 0, 0, 0, 0, 0), (.iastore, 56, 0, 0, 0, 0, 0), (.aload_n 0, 57, 0, 0, 0, 0, 0), (.dup, 58, 0, 0, 0, 0, 0), 
  (.getfield 23, 61, 1, 1, 0, 0, 0), am_dum, am_dum, (.iconst 1, 62, 0, 0, 0, 1, 0), (.iadd, 63, 0, 0, 0, 0, 0), (.putfield 23, 66, 1, 1, 0, 0, 0), am_dum, am_dum, (.iinc 4 (-1), 69, 4, 0, 0, -1, 0), am_dum, am_dum, 
  (.goto (-51), 72, 18, 0, 0, 0, 0), am_dum, am_dum, (.iconst 1, 73, 0, 0, 0, 1, 0), (.ireturn, 74, 1, 0, 0, 0, 0)]
def k_Ta_clear : List am_e := [
  (.aload_n 0, 1, 0, 0, 0, 0, 0), (.iconst 0, 2, 0, 0, 0, 0, 0), (.putfield 23, 5, 1, 1, 0, 0, 0), am_dum, am_dum, (.aload_n 0, 6, 0, 0, 0, 0, 0), (.iconst 0, 7, 0, 0, 0, 0, 0), (.putfield 29, 10, 1, 5, 0, 0, 0), am_dum, am_dum, 
  (.return_, 11, 0, 0, 0, 0, 0)]
def k_Ta_symbolAt : List am_e := [
  (.iload_n 1, 1, 1, 0, 0, 0, 0), (.ifCond .lt 29, 4, 30, 0, 0, 0, 0), am_dum, am_dum, (.iload_n 1, 5, 1, 0, 0, 0, 0), (.aload_n 0, 6, 0, 0, 0, 0, 0), (.getfield 23, 9, 1, 1, 0, 0, 0), am_dum, am_dum, 
  (.if_icmp .ge 21, 12, 30, 0, 0, 0, 0), am_dum, am_dum, (.iload_n 1, 13, 1, 0, 0, 0, 0), (.aload_n 0, 14, 0, 0, 0, 0, 0), (.getfield 9, 17, 1, 0, 0, 0, 0), am_dum, am_dum, (.arraylength, 18, 0, 0, 0, 0, 0), 
  (.if_icmp .ge 12, 21, 30, 0, 0, 0, 0), am_dum, am_dum, (.aload_n 0, 22, 0, 0, 0, 0, 0), (.getfield 9, 25, 1, 0, 0, 0, 0), am_dum, am_dum, (.iload_n 1, 26, 1, 0, 0, 0, 0), (.iaload, 27, 0, 0, 0, 0, 0), 
  (.goto 4, 30, 31, 0, 0, 0, 0), am_dum, am_dum, (.iconst (-1), 31, 0, 0, 0, -1, 0), (.ireturn, 32, 0, 0, 0, 0, 0)]
def k_Ta_wordEnd : List am_e := [
  (.iload_n 1, 1, 1, 0, 0, 0, 0), (.istore_n 2, 2, 2, 0, 0, 0, 0), (.iload_n 2, 3, 2, 0, 0, 0, 0), (.aload_n 0, 4, 0, 0, 0, 0, 0), (.getfield 23, 7, 1, 1, 0, 0, 0), am_dum, am_dum, (.if_icmp .ge 22, 10, 29, 0, 0, 0, 0), am_dum, 
  am_dum, (.aload_n 0, 11, 0, 0, 0, 0, 0), (.iload_n 2, 12, 2, 0, 0, 0, 0), (.invokevirtual 32, 15, 66, 0, 1, 0, 0), am_dum, am_dum, (.invokestatic 36, 18, 76, 3, 1, 0, 0), am_dum, am_dum, (.ifCond .ne 5, 21, 23, 0, 0, 0, 0), 
  am_dum, am_dum, (.iload_n 2, 22, 2, 0, 0, 0, 0), (.ireturn, 23, 0, 0, 0, 0, 0), (.iinc 2 1, 26, 2, 0, 0, 1, 0), am_dum, am_dum, (.goto (-24), 29, 2, 0, 0, 0, 0), am_dum, am_dum, (.aload_n 0, 30, 0, 0, 0, 0, 0), 
  (.getfield 23, 33, 1, 1, 0, 0, 0), am_dum, am_dum, (.ireturn, 34, 0, 0, 0, 0, 0)]
def k_Ta_wordBetween : List am_e := [
  (.lconst 0, 1, 0, 0, 0, 0, 0), (.lstore_n 3, 2, 3, 0, 0, 0, 0), (.iconst 0, 3, 0, 0, 0, 0, 0), (.istore 5, 5, 5, 0, 0, 0, 0), am_dum, (.iload 5, 7, 5, 0, 0, 0, 0), am_dum, (.bipush 12, 9, 0, 0, 0, 12, 0), am_dum, 
  (.if_icmp .ge 39, 12, 48, 0, 0, 0, 0), am_dum, am_dum, (.iload_n 1, 13, 1, 0, 0, 0, 0), (.iload 5, 15, 5, 0, 0, 0, 0), am_dum, (.iadd, 16, 0, 0, 0, 0, 0), (.istore 6, 18, 6, 0, 0, 0, 0), am_dum, (.lload_n 3, 19, 3, 0, 0, 0, 0), 
  (.iload 6, 21, 6, 0, 0, 0, 0), am_dum, (.iload_n 2, 22, 2, 0, 0, 0, 0), (.if_icmp .ge 15, 25, 37, 0, 0, 0, 0), am_dum, am_dum, (.aload_n 0, 26, 0, 0, 0, 0, 0), (.iload 6, 28, 6, 0, 0, 0, 0), am_dum, 
  (.invokevirtual 32, 31, 66, 0, 1, 0, 0), am_dum, am_dum, (.invokestatic 36, 34, 76, 3, 1, 0, 0), am_dum, am_dum, (.goto 4, 37, 38, 0, 0, 0, 0), am_dum, am_dum, (.iconst 0, 38, 0, 0, 0, 0, 0), 
  (.invokestatic 41, 41, 77, 3, 2, 0, 0), am_dum, am_dum, (.lstore_n 3, 42, 3, 0, 0, 0, 0), (.iinc 5 1, 45, 5, 0, 0, 1, 0), am_dum, am_dum, (.goto (-40), 48, 5, 0, 0, 0, 0), am_dum, am_dum, (.lload_n 3, 49, 3, 0, 0, 0, 0), 
  (.lreturn, 50, 0, 0, 0, 0, 0)]
def k_Ta_split : List am_e := [
  (.aload_n 0, 1, 0, 0, 0, 0, 0), (.iconst 0, 2, 0, 0, 0, 0, 0), (.putfield 29, 5, 1, 5, 0, 0, 0), am_dum, am_dum, (.iconst 0, 6, 0, 0, 0, 0, 0), (.istore_n 1, 7, 1, 0, 0, 0, 0), (.iconst 0, 8, 0, 0, 0, 0, 0), 
  (.istore_n 2, 9, 2, 0, 0, 0, 0), (.iload_n 2, 10, 2, 0, 0, 0, 0), (.aload_n 0, 11, 0, 0, 0, 0, 0), (.getfield 23, 14, 1, 1, 0, 0, 0), am_dum, am_dum, (.if_icmp .ge 46, 17, 60, 0, 0, 0, 0), am_dum, am_dum, 
  (.iload_n 1, 18, 1, 0, 0, 0, 0), (.istore_n 3, 19, 3, 0, 0, 0, 0), (.aload_n 0, 20, 0, 0, 0, 0, 0), (.iload_n 2, 21, 2, 0, 0, 0, 0), (.invokevirtual 32, 24, 66, 0, 1, 0, 0), am_dum, am_dum, (.invokestatic 36, 27, 76, 3, 1, 0, 0), 
  am_dum, am_dum, (.ifCond .eq 7, 30, 34, 0, 0, 0, 0), am_dum, am_dum, (.iconst 1, 31, 0, 0, 0, 1, 0), (.goto 4, 34, 35, 0, 0, 0, 0), am_dum, am_dum, (.iconst 0, 35, 0, 0, 0, 0, 0), (.istore_n 1, 36, 1, 0, 0, 0, 0), 
  (.iload_n 1, 37, 1, 0, 0, 0, 0), (.ifCond .eq 17, 40, 54, 0, 0, 0, 0), am_dum, am_dum, (.iload_n 3, 41, 3, 0, 0, 0, 0), (.ifCond .ne 13, 44, 54, 0, 0, 0, 0), am_dum, am_dum, (.aload_n 0, 45, 0, 0, 0, 0, 0), 
  (.iload_n 2, 46, 2, 0, 0, 0, 0), (.aload_n 0, 47, 0, 0, 0, 0, 0), (.iload_n 2, 48, 2, 0, 0, 0, 0), (.invokevirtual 45, 51, 67, 0, 1, 0, 0), am_dum, am_dum, (.invokevirtual 48, 54, 70, 0, 2, 0, 0), am_dum, am_dum, 
  (.iinc 2 1, 57, 2, 0, 0, 1, 0), am_dum, am_dum, (.goto (-48), 60, 9, 0, 0, 0, 0), am_dum, am_dum, (.aload_n 0, 61, 0, 0, 0, 0, 0), (.getfield 29, 64, 1, 5, 0, 0, 0), am_dum, am_dum, (.ireturn, 65, 0, 0, 0, 0, 0)]
def k_Ta_keepWord : List am_e := [
  (.aload_n 0, 1, 0, 0, 0, 0, 0), (.getfield 29, 4, 1, 5, 0, 0, 0), am_dum, am_dum, (.bipush 48, 6, 0, 0, 0, 48, 0), am_dum, (.if_icmp .ge 50, 9, 56, 0, 0, 0, 0), am_dum, am_dum, (.aload_n 0, 10, 0, 0, 0, 0, 0), 
  (.getfield 13, 13, 1, 2, 0, 0, 0), am_dum, am_dum, (.aload_n 0, 14, 0, 0, 0, 0, 0), (.getfield 29, 17, 1, 5, 0, 0, 0), am_dum, am_dum, (.aload_n 0, 18, 0, 0, 0, 0, 0), (.iload_n 1, 19, 1, 0, 0, 0, 0), 
  (.iload_n 2, 20, 2, 0, 0, 0, 0), (.invokevirtual 52, 23, 68, 0, 2, 0, 0), am_dum, am_dum, (.lastore, 24, 0, 0, 0, 0, 0), (.aload_n 0, 25, 0, 0, 0, 0, 0), (.getfield 17, 28, 1, 3, 0, 0, 0), am_dum, am_dum, 
  (.aload_n 0, 29, 0, 0, 0, 0, 0), (.getfield 29, 32, 1, 5, 0, 0, 0), am_dum, am_dum, (.iload_n 1, 33, 1, 0, 0, 0, 0), (.iastore, 34, 0, 0, 0, 0, 0), (.aload_n 0, 35, 0, 0, 0, 0, 0), (.getfield 20, 38, 1, 4, 0, 0, 0), am_dum, 
  am_dum, (.aload_n 0, 39, 0, 0, 0, 0, 0), (.getfield 29, 42, 1, 5, 0, 0, 0), am_dum, am_dum, (.iload_n 2, 43, 2, 0, 0, 0, 0), (.iload_n 1, 44, 1, 0, 0, 0, 0), (.isub, 45, 0, 0, 0, 0, 0), (.iastore, 46, 0, 0, 0, 0, 0), 
  (.aload_n 0, 47, 0, 0, 0, 0, 0), (.dup, 48, 0, 0, 0, 0, 0), (.getfield 29, 51, 1, 5, 0, 0, 0), am_dum, am_dum, (.iconst 1, 52, 0, 0, 0, 1, 0), (.iadd, 53, 0, 0, 0, 0, 0), (.putfield 29, 56, 1, 5, 0, 0, 0), am_dum, am_dum, 
  (.return_, 57, 0, 0, 0, 0, 0)]
def k_Ta_wordCount : List am_e := [
  (.aload_n 0, 1, 0, 0, 0, 0, 0), (.getfield 29, 4, 1, 5, 0, 0, 0), am_dum, am_dum, (.ireturn, 5, 0, 0, 0, 0, 0)]
def k_Ta_hasWord : List am_e := [
  (.iload_n 1, 1, 1, 0, 0, 0, 0), (.ifCond .lt 21, 4, 22, 0, 0, 0, 0), am_dum, am_dum, (.iload_n 1, 5, 1, 0, 0, 0, 0), (.aload_n 0, 6, 0, 0, 0, 0, 0), (.getfield 29, 9, 1, 5, 0, 0, 0), am_dum, am_dum, 
  (.if_icmp .ge 13, 12, 22, 0, 0, 0, 0), am_dum, am_dum, (.iload_n 1, 13, 1, 0, 0, 0, 0), (.bipush 48, 15, 0, 0, 0, 48, 0), am_dum, (.if_icmp .ge 7, 18, 22, 0, 0, 0, 0), am_dum, am_dum, (.iconst 1, 19, 0, 0, 0, 1, 0), 
  (.goto 4, 22, 23, 0, 0, 0, 0), am_dum, am_dum, (.iconst 0, 23, 0, 0, 0, 0, 0), (.ireturn, 24, 1, 0, 0, 0, 0)]
def k_Ta_wordAt : List am_e := [
  (.aload_n 0, 1, 0, 0, 0, 0, 0), (.iload_n 1, 2, 1, 0, 0, 0, 0), (.invokevirtual 56, 5, 72, 0, 1, 0, 0), am_dum, am_dum, (.ifCond .eq 12, 8, 17, 0, 0, 0, 0), am_dum, am_dum, (.aload_n 0, 9, 0, 0, 0, 0, 0), 
  (.getfield 13, 12, 1, 2, 0, 0, 0), am_dum, am_dum, (.iload_n 1, 13, 1, 0, 0, 0, 0), (.laload, 14, 0, 0, 0, 0, 0), (.goto 4, 17, 18, 0, 0, 0, 0), am_dum, am_dum, (.lconst 0, 18, 0, 0, 0, 0, 0), (.lreturn, 19, 0, 0, 0, 0, 0)]
def k_Ta_startAt : List am_e := [
  (.aload_n 0, 1, 0, 0, 0, 0, 0), (.iload_n 1, 2, 1, 0, 0, 0, 0), (.invokevirtual 56, 5, 72, 0, 1, 0, 0), am_dum, am_dum, (.ifCond .eq 12, 8, 17, 0, 0, 0, 0), am_dum, am_dum, (.aload_n 0, 9, 0, 0, 0, 0, 0), 
  (.getfield 17, 12, 1, 3, 0, 0, 0), am_dum, am_dum, (.iload_n 1, 13, 1, 0, 0, 0, 0), (.iaload, 14, 0, 0, 0, 0, 0), (.goto 4, 17, 18, 0, 0, 0, 0), am_dum, am_dum, (.iconst 0, 18, 0, 0, 0, 0, 0), (.ireturn, 19, 0, 0, 0, 0, 0)]
def k_Ta_sizeAt : List am_e := [
  (.aload_n 0, 1, 0, 0, 0, 0, 0), (.iload_n 1, 2, 1, 0, 0, 0, 0), (.invokevirtual 56, 5, 72, 0, 1, 0, 0), am_dum, am_dum, (.ifCond .eq 12, 8, 17, 0, 0, 0, 0), am_dum, am_dum, (.aload_n 0, 9, 0, 0, 0, 0, 0), 
  (.getfield 20, 12, 1, 4, 0, 0, 0), am_dum, am_dum, (.iload_n 1, 13, 1, 0, 0, 0, 0), (.iaload, 14, 0, 0, 0, 0, 0), (.goto 4, 17, 18, 0, 0, 0, 0), am_dum, am_dum, (.iconst 0, 18, 0, 0, 0, 0, 0), (.ireturn, 19, 0, 0, 0, 0, 0)]
def k_Wo_digitOf : List am_e := [
  (.iload_n 0, 1, 0, 0, 0, 0, 0), (.bipush 48, 3, 0, 0, 0, 48, 0), am_dum, (.if_icmp .lt 16, 6, 19, 0, 0, 0, 0), am_dum, am_dum, (.iload_n 0, 7, 0, 0, 0, 0, 0), (.bipush 57, 9, 0, 0, 0, 57, 0), am_dum, 
  (.if_icmp .gt 10, 12, 19, 0, 0, 0, 0), am_dum, am_dum, (.iload_n 0, 13, 0, 0, 0, 0, 0), (.bipush 48, 15, 0, 0, 0, 48, 0), am_dum, (.isub, 16, 0, 0, 0, 0, 0), (.iconst 1, 17, 0, 0, 0, 1, 0), (.iadd, 18, 0, 0, 0, 0, 0), 
  (.ireturn, 19, 0, 0, 0, 0, 0), (.iload_n 0, 20, 0, 0, 0, 0, 0), (.bipush 97, 22, 0, 0, 0, 97, 0), am_dum, (.if_icmp .lt 17, 25, 39, 0, 0, 0, 0), am_dum, am_dum, (.iload_n 0, 26, 0, 0, 0, 0, 0), (.bipush 122, 28, 0, 0, 0, 122, 0), 
  am_dum, (.if_icmp .gt 11, 31, 39, 0, 0, 0, 0), am_dum, am_dum, (.iload_n 0, 32, 0, 0, 0, 0, 0), (.bipush 97, 34, 0, 0, 0, 97, 0), am_dum, (.isub, 35, 0, 0, 0, 0, 0), (.bipush 11, 37, 0, 0, 0, 11, 0), am_dum, 
  (.iadd, 38, 0, 0, 0, 0, 0), (.ireturn, 39, 0, 0, 0, 0, 0), (.iload_n 0, 40, 0, 0, 0, 0, 0), (.bipush 65, 42, 0, 0, 0, 65, 0), am_dum, (.if_icmp .lt 17, 45, 59, 0, 0, 0, 0), am_dum, am_dum, (.iload_n 0, 46, 0, 0, 0, 0, 0), 
  (.bipush 90, 48, 0, 0, 0, 90, 0), am_dum, (.if_icmp .gt 11, 51, 59, 0, 0, 0, 0), am_dum, am_dum, (.iload_n 0, 52, 0, 0, 0, 0, 0), (.bipush 65, 54, 0, 0, 0, 65, 0), am_dum, (.isub, 55, 0, 0, 0, 0, 0), 
  (.bipush 11, 57, 0, 0, 0, 11, 0), am_dum, (.iadd, 58, 0, 0, 0, 0, 0), (.ireturn, 59, 0, 0, 0, 0, 0), (.iconst 0, 60, 0, 0, 0, 0, 0), (.ireturn, 61, 0, 0, 0, 0, 0)]
def k_Wo_withDigit : List am_e := [
  (.lload_n 0, 1, 0, 0, 0, 0, 0), (.ldc2_w 9, 4, 0, 0, 0, 0, 37), am_dum, am_dum, (.lmul, 5, 0, 0, 0, 0, 0), (.iload_n 2, 6, 2, 0, 0, 0, 0), (.i2l, 7, 0, 0, 0, 0, 0), (.ladd, 8, 0, 0, 0, 0, 0), (.lreturn, 9, 0, 0, 0, 0, 0)]
def k_Wo_withZeros : List am_e := [
  (.lload_n 0, 1, 0, 0, 0, 0, 0), (.lstore_n 3, 2, 3, 0, 0, 0, 0), (.iconst 0, 3, 0, 0, 0, 0, 0), (.istore 5, 5, 5, 0, 0, 0, 0), am_dum, (.iload 5, 7, 5, 0, 0, 0, 0), am_dum, (.iload_n 2, 8, 2, 0, 0, 0, 0), 
  (.if_icmp .ge 22, 11, 30, 0, 0, 0, 0), am_dum, am_dum, (.iload 5, 13, 5, 0, 0, 0, 0), am_dum, (.bipush 12, 15, 0, 0, 0, 12, 0), am_dum, (.if_icmp .ge 15, 18, 30, 0, 0, 0, 0), am_dum, am_dum, (.lload_n 3, 19, 3, 0, 0, 0, 0), 
  (.ldc2_w 9, 22, 0, 0, 0, 0, 37), am_dum, am_dum, (.lmul, 23, 0, 0, 0, 0, 0), (.lstore_n 3, 24, 3, 0, 0, 0, 0), (.iinc 5 1, 27, 5, 0, 0, 1, 0), am_dum, am_dum, (.goto (-22), 30, 5, 0, 0, 0, 0), am_dum, am_dum, 
  (.lload_n 3, 31, 3, 0, 0, 0, 0), (.lreturn, 32, 0, 0, 0, 0, 0)]
def k_Wo_withoutLast : List am_e := [
  (.lload_n 0, 1, 0, 0, 0, 0, 0), (.lstore_n 3, 2, 3, 0, 0, 0, 0), (.iconst 0, 3, 0, 0, 0, 0, 0), (.istore 5, 5, 5, 0, 0, 0, 0), am_dum, (.iload 5, 7, 5, 0, 0, 0, 0), am_dum, (.iload_n 2, 8, 2, 0, 0, 0, 0), 
  (.if_icmp .ge 22, 11, 30, 0, 0, 0, 0), am_dum, am_dum, (.iload 5, 13, 5, 0, 0, 0, 0), am_dum, (.bipush 12, 15, 0, 0, 0, 12, 0), am_dum, (.if_icmp .ge 15, 18, 30, 0, 0, 0, 0), am_dum, am_dum, (.lload_n 3, 19, 3, 0, 0, 0, 0), 
  (.ldc2_w 9, 22, 0, 0, 0, 0, 37), am_dum, am_dum, (.ldiv, 23, 0, 0, 0, 0, 0), (.lstore_n 3, 24, 3, 0, 0, 0, 0), (.iinc 5 1, 27, 5, 0, 0, 1, 0), am_dum, am_dum, (.goto (-22), 30, 5, 0, 0, 0, 0), am_dum, am_dum, 
  (.lload_n 3, 31, 3, 0, 0, 0, 0), (.lreturn, 32, 0, 0, 0, 0, 0)]
def k_Wo_lengthOf : List am_e := [
  (.lload_n 0, 1, 0, 0, 0, 0, 0), (.lstore_n 2, 2, 2, 0, 0, 0, 0), (.bipush 12, 4, 0, 0, 0, 12, 0), am_dum, (.istore 4, 6, 4, 0, 0, 0, 0), am_dum, (.iload 4, 8, 4, 0, 0, 0, 0), am_dum, (.ifCond .le 28, 11, 36, 0, 0, 0, 0), am_dum, 
  am_dum, (.lload_n 2, 12, 2, 0, 0, 0, 0), (.ldc2_w 9, 15, 0, 0, 0, 0, 37), am_dum, am_dum, (.lrem, 16, 0, 0, 0, 0, 0), (.lconst 0, 17, 0, 0, 0, 0, 0), (.lcmp, 18, 0, 0, 0, 0, 0), (.ifCond .eq 6, 21, 24, 0, 0, 0, 0), am_dum, 
  am_dum, (.iload 4, 23, 4, 0, 0, 0, 0), am_dum, (.ireturn, 24, 0, 0, 0, 0, 0), (.lload_n 2, 25, 2, 0, 0, 0, 0), (.ldc2_w 9, 28, 0, 0, 0, 0, 37), am_dum, am_dum, (.ldiv, 29, 0, 0, 0, 0, 0), (.lstore_n 2, 30, 2, 0, 0, 0, 0), 
  (.iinc 4 (-1), 33, 4, 0, 0, -1, 0), am_dum, am_dum, (.goto (-27), 36, 6, 0, 0, 0, 0), am_dum, am_dum, (.iconst 0, 37, 0, 0, 0, 0, 0), (.ireturn, 38, 0, 0, 0, 0, 0)]
def k_Wo_symbolAt : List am_e := [
  (.lload_n 0, 1, 0, 0, 0, 0, 0), (.bipush 11, 3, 0, 0, 0, 11, 0), am_dum, (.iload_n 2, 4, 2, 0, 0, 0, 0), (.isub, 5, 0, 0, 0, 0, 0), (.invokestatic 11, 8, 79, 3, 2, 0, 0), am_dum, am_dum, (.ldc2_w 9, 11, 0, 0, 0, 0, 37), am_dum, 
  am_dum, (.lrem, 12, 0, 0, 0, 0, 0), (.l2i, 13, 0, 0, 0, 0, 0), (.istore_n 3, 14, 3, 0, 0, 0, 0), (.iload_n 3, 15, 3, 0, 0, 0, 0), (.bipush 11, 17, 0, 0, 0, 11, 0), am_dum, (.if_icmp .lt 13, 20, 30, 0, 0, 0, 0), am_dum, am_dum, 
  (.iload_n 3, 21, 3, 0, 0, 0, 0), (.bipush 11, 23, 0, 0, 0, 11, 0), am_dum, (.isub, 24, 0, 0, 0, 0, 0), (.bipush 97, 26, 0, 0, 0, 97, 0), am_dum, (.iadd, 27, 0, 0, 0, 0, 0), (.goto 9, 30, 36, 0, 0, 0, 0), am_dum, am_dum, 
  (.iload_n 3, 31, 3, 0, 0, 0, 0), (.iconst 1, 32, 0, 0, 0, 1, 0), (.isub, 33, 0, 0, 0, 0, 0), (.bipush 48, 35, 0, 0, 0, 48, 0), am_dum, (.iadd, 36, 0, 0, 0, 0, 0), (.ireturn, 37, 0, 0, 0, 0, 0)]
def k_Wo_isBeginning : List am_e := [
  (.bipush 12, 2, 0, 0, 0, 12, 0), am_dum, (.lload_n 0, 3, 0, 0, 0, 0, 0), (.invokestatic 15, 6, 80, 3, 1, 0, 0), am_dum, am_dum, (.isub, 7, 0, 0, 0, 0, 0), (.istore 4, 9, 4, 0, 0, 0, 0), am_dum, (.lload_n 0, 10, 0, 0, 0, 0, 0), 
  (.iload 4, 12, 4, 0, 0, 0, 0), am_dum, (.invokestatic 11, 15, 79, 3, 2, 0, 0), am_dum, am_dum, (.lload_n 2, 16, 2, 0, 0, 0, 0), (.iload 4, 18, 4, 0, 0, 0, 0), am_dum, (.invokestatic 11, 21, 79, 3, 2, 0, 0), am_dum, am_dum, 
  (.lcmp, 22, 0, 0, 0, 0, 0), (.ifCond .ne 7, 25, 29, 0, 0, 0, 0), am_dum, am_dum, (.iconst 1, 26, 0, 0, 0, 1, 0), (.goto 4, 29, 30, 0, 0, 0, 0), am_dum, am_dum, (.iconst 0, 30, 0, 0, 0, 0, 0), (.ireturn, 31, 1, 0, 0, 0, 0)]
def k_Wo_spread : List am_e := [
  (.lload_n 0, 1, 0, 0, 0, 0, 0), (.lstore_n 3, 2, 3, 0, 0, 0, 0), (.iconst 0, 3, 0, 0, 0, 0, 0), (.istore 5, 5, 5, 0, 0, 0, 0), am_dum, (.bipush 11, 7, 0, 0, 0, 11, 0), am_dum, (.istore 6, 9, 6, 0, 0, 0, 0), am_dum, 
  (.iload 6, 11, 6, 0, 0, 0, 0), am_dum, (.ifCond .lt 51, 14, 62, 0, 0, 0, 0), am_dum, am_dum, (.lload_n 3, 15, 3, 0, 0, 0, 0), (.ldc2_w 9, 18, 0, 0, 0, 0, 37), am_dum, am_dum, (.lrem, 19, 0, 0, 0, 0, 0), (.l2i, 20, 0, 0, 0, 0, 0), 
  (.istore 7, 22, 7, 0, 0, 0, 0), am_dum, (.iload 6, 24, 6, 0, 0, 0, 0), am_dum, (.aload_n 2, 25, 2, 0, 0, 0, 0), (.arraylength, 26, 0, 0, 0, 0, 0), (.if_icmp .ge 9, 29, 35, 0, 0, 0, 0), am_dum, am_dum, 
  (.aload_n 2, 30, 2, 0, 0, 0, 0), (.iload 6, 32, 6, 0, 0, 0, 0), am_dum, (.iload 7, 34, 7, 0, 0, 0, 0), am_dum, (.iastore, 35, 0, 0, 0, 0, 0), (.iload 5, 37, 5, 0, 0, 0, 0), am_dum, (.iload 7, 39, 7, 0, 0, 0, 0), am_dum, 
  (.ifCond .eq 7, 42, 46, 0, 0, 0, 0), am_dum, am_dum, (.iconst 1, 43, 0, 0, 0, 1, 0), (.goto 4, 46, 47, 0, 0, 0, 0), am_dum, am_dum, (.iconst 0, 47, 0, 0, 0, 0, 0), (.iadd, 48, 0, 0, 0, 0, 0), (.istore 5, 50, 5, 0, 0, 0, 0), 
  am_dum, (.lload_n 3, 51, 3, 0, 0, 0, 0), (.ldc2_w 9, 54, 0, 0, 0, 0, 37), am_dum, am_dum, (.ldiv, 55, 0, 0, 0, 0, 0), (.lstore_n 3, 56, 3, 0, 0, 0, 0), (.iinc 6 (-1), 59, 6, 0, 0, -1, 0), am_dum, am_dum, 
  (.goto (-50), 62, 9, 0, 0, 0, 0), am_dum, am_dum, (.iload 5, 64, 5, 0, 0, 0, 0), am_dum, (.ireturn, 65, 0, 0, 0, 0, 0)]
def k_TI_init : List am_e := [
  (.aload_n 0, 1, 0, 0, 0, 0, 0), (.invokespecial 1, 4, 0, 4, 0, 0, 0), am_dum, am_dum, (.aload_n 0, 5, 0, 0, 0, 0, 0), (.new 7, 8, 1, 0, 0, 0, 0), am_dum, am_dum, (.dup, 9, 0, 0, 0, 0, 0), (.invokespecial 9, 12, 62, 2, 0, 0, 0), 
  am_dum, am_dum, (.putfield 10, 15, 0, 0, 0, 0, 0), am_dum, am_dum, (.aload_n 0, 16, 0, 0, 0, 0, 0), (.iconst 3, 17, 0, 0, 0, 3, 0), (.anewarray 16, 20, 5, 0, 0, 0, 0), am_dum, am_dum, (.putfield 18, 23, 0, 1, 0, 0, 0), am_dum, 
  am_dum, (.iconst 0, 24, 0, 0, 0, 0, 0), (.istore_n 1, 25, 1, 0, 0, 0, 0), (.iload_n 1, 26, 1, 0, 0, 0, 0), (.aload_n 0, 27, 0, 0, 0, 0, 0), (.getfield 18, 30, 0, 1, 0, 0, 0), am_dum, am_dum, (.arraylength, 31, 0, 0, 0, 0, 0), 
  (.if_icmp .ge 23, 34, 54, 0, 0, 0, 0), am_dum, am_dum, (.aload_n 0, 35, 0, 0, 0, 0, 0), (.getfield 18, 38, 0, 1, 0, 0, 0), am_dum, am_dum, (.iload_n 1, 39, 1, 0, 0, 0, 0), (.new 16, 42, 2, 0, 0, 0, 0), am_dum, am_dum, 
  (.dup, 43, 0, 0, 0, 0, 0), (.iload_n 1, 44, 1, 0, 0, 0, 0), (.invokespecial 22, 47, 7, 1, 1, 0, 0), am_dum, am_dum, (.aastore, 48, 0, 0, 0, 0, 0), (.iinc 1 1, 51, 1, 0, 0, 1, 0), am_dum, am_dum, (.goto (-26), 54, 25, 0, 0, 0, 0), 
  am_dum, am_dum, (.aload_n 0, 55, 0, 0, 0, 0, 0), (.new 25, 58, 3, 0, 0, 0, 0), am_dum, am_dum, (.dup, 59, 0, 0, 0, 0, 0), (.invokespecial 27, 62, 41, 2, 0, 0, 0), am_dum, am_dum, (.putfield 28, 65, 0, 2, 0, 0, 0), am_dum, am_dum, 
  (.aload_n 0, 66, 0, 0, 0, 0, 0), (.new 32, 69, 4, 0, 0, 0, 0), am_dum, am_dum, (.dup, 70, 0, 0, 0, 0, 0), (.aload_n 0, 71, 0, 0, 0, 0, 0), (.getfield 10, 74, 0, 0, 0, 0, 0), am_dum, am_dum, 
  (.invokespecial 34, 77, 27, 1, 1, 0, 0), am_dum, am_dum, (.putfield 37, 80, 0, 3, 0, 0, 0), am_dum, am_dum, (.aload_n 0, 81, 0, 0, 0, 0, 0), (.new 41, 84, 6, 0, 0, 0, 0), am_dum, am_dum, (.dup, 85, 0, 0, 0, 0, 0), 
  (.invokespecial 43, 88, 0, 2, 0, 0, 0), am_dum, am_dum, (.putfield 44, 91, 0, 4, 0, 0, 0), am_dum, am_dum, (.aload_n 0, 92, 0, 0, 0, 0, 0), (.new 48, 95, 7, 0, 0, 0, 0), am_dum, am_dum, (.dup, 96, 0, 0, 0, 0, 0), 
  (.invokespecial 50, 99, 16, 2, 0, 0, 0), am_dum, am_dum, (.putfield 51, 102, 0, 5, 0, 0, 0), am_dum, am_dum, (.aload_n 0, 103, 0, 0, 0, 0, 0), (.lconst 0, 104, 0, 0, 0, 0, 0), (.putfield 57, 107, 0, 6, 0, 0, 0), am_dum, am_dum, 
  (.return_, 108, 0, 0, 0, 0, 0)]
def k_TI_type : List am_e := [
  (.iload_n 3, 1, 3, 0, 0, 0, 0), (.iconst 1, 2, 0, 0, 0, 1, 0), (.if_icmp .lt 9, 5, 11, 0, 0, 0, 0), am_dum, am_dum, (.iload_n 3, 6, 3, 0, 0, 0, 0), (.bipush 8, 8, 0, 0, 0, 8, 0), am_dum, (.if_icmp .le 5, 11, 13, 0, 0, 0, 0), 
  am_dum, am_dum, (.iconst (-1), 12, 0, 0, 0, -1, 0), (.ireturn, 13, 0, 0, 0, 0, 0), (.aload_n 0, 14, 0, 0, 0, 0, 0), (.getfield 10, 17, 0, 0, 0, 0, 0), am_dum, am_dum, (.lload_n 1, 18, 1, 0, 0, 0, 0), 
  (.iload_n 3, 19, 3, 0, 0, 0, 0), (.invokevirtual 61, 22, 64, 0, 2, 0, 0), am_dum, am_dum, (.ifCond .eq 13, 25, 35, 0, 0, 0, 0), am_dum, am_dum, (.aload_n 0, 26, 0, 0, 0, 0, 0), (.getfield 10, 29, 0, 0, 0, 0, 0), am_dum, am_dum, 
  (.invokevirtual 65, 32, 63, 0, 0, 0, 0), am_dum, am_dum, (.goto 5, 35, 37, 0, 0, 0, 0), am_dum, am_dum, (.bipush (-3), 37, 0, 0, 0, -3, 0), am_dum, (.ireturn, 38, 0, 0, 0, 0, 0)]
def k_TI_text : List am_e := [
  (.aload_n 0, 1, 0, 0, 0, 0, 0), (.iload_n 1, 2, 1, 0, 0, 0, 0), (.invokevirtual 69, 5, 100, 0, 1, 0, 0), am_dum, am_dum, (.astore_n 3, 6, 3, 0, 0, 0, 0), (.aload_n 3, 7, 3, 0, 0, 0, 0), (.ifnull 12, 10, 19, 0, 0, 0, 0), am_dum, 
  am_dum, (.iload_n 2, 11, 2, 0, 0, 0, 0), (.ifCond .lt 8, 14, 19, 0, 0, 0, 0), am_dum, am_dum, (.iload_n 2, 15, 2, 0, 0, 0, 0), (.iconst 4, 16, 0, 0, 0, 4, 0), (.if_icmp .lt 5, 19, 21, 0, 0, 0, 0), am_dum, am_dum, 
  (.iconst (-1), 20, 0, 0, 0, -1, 0), (.ireturn, 21, 0, 0, 0, 0, 0), (.aload_n 0, 22, 0, 0, 0, 0, 0), (.getfield 10, 25, 0, 0, 0, 0, 0), am_dum, am_dum, (.invokevirtual 73, 28, 69, 0, 0, 0, 0), am_dum, am_dum, 
  (.pop, 29, 0, 0, 0, 0, 0), (.aload_n 0, 30, 0, 0, 0, 0, 0), (.getfield 28, 33, 0, 2, 0, 0, 0), am_dum, am_dum, (.aload_n 3, 34, 3, 0, 0, 0, 0), (.iload_n 2, 35, 2, 0, 0, 0, 0), (.aload_n 0, 36, 0, 0, 0, 0, 0), 
  (.getfield 10, 39, 0, 0, 0, 0, 0), am_dum, am_dum, (.invokevirtual 76, 42, 42, 0, 3, 0, 0), am_dum, am_dum, (.istore 4, 44, 4, 0, 0, 0, 0), am_dum, (.aload_n 0, 45, 0, 0, 0, 0, 0), (.getfield 10, 48, 0, 0, 0, 0, 0), am_dum, 
  am_dum, (.invokevirtual 80, 51, 65, 0, 0, 0, 0), am_dum, am_dum, (.iload 4, 53, 4, 0, 0, 0, 0), am_dum, (.ireturn, 54, 0, 0, 0, 0, 0)]
def k_TI_remove : List am_e := [
  (.aload_n 0, 1, 0, 0, 0, 0, 0), (.getfield 28, 4, 0, 2, 0, 0, 0), am_dum, am_dum, (.iload_n 1, 5, 1, 0, 0, 0, 0), (.invokevirtual 83, 8, 43, 0, 1, 0, 0), am_dum, am_dum, (.ifCond .eq 7, 11, 15, 0, 0, 0, 0), am_dum, am_dum, 
  (.iconst 1, 12, 0, 0, 0, 1, 0), (.goto 4, 15, 16, 0, 0, 0, 0), am_dum, am_dum, (.iconst (-1), 16, 0, 0, 0, -1, 0), (.ireturn, 17, 0, 0, 0, 0, 0)]
def k_TI_stop : List am_e := [
  (.aload_n 0, 1, 0, 0, 0, 0, 0), (.iload_n 1, 2, 1, 0, 0, 0, 0), (.invokevirtual 69, 5, 100, 0, 1, 0, 0), am_dum, am_dum, (.astore_n 2, 6, 2, 0, 0, 0, 0), (.aload_n 2, 7, 2, 0, 0, 0, 0), (.ifnonnull 5, 10, 12, 0, 0, 0, 0), am_dum, 
  am_dum, (.iconst (-1), 11, 0, 0, 0, -1, 0), (.ireturn, 12, 0, 0, 0, 0, 0), (.aload_n 0, 13, 0, 0, 0, 0, 0), (.getfield 10, 16, 0, 0, 0, 0, 0), am_dum, am_dum, (.invokevirtual 73, 19, 69, 0, 0, 0, 0), am_dum, am_dum, 
  (.istore_n 3, 20, 3, 0, 0, 0, 0), (.iconst 0, 21, 0, 0, 0, 0, 0), (.istore 4, 23, 4, 0, 0, 0, 0), am_dum, (.iconst 0, 24, 0, 0, 0, 0, 0), (.istore 5, 26, 5, 0, 0, 0, 0), am_dum, (.iload 5, 28, 5, 0, 0, 0, 0), am_dum, 
  (.iload_n 3, 29, 3, 0, 0, 0, 0), (.if_icmp .ge 28, 32, 57, 0, 0, 0, 0), am_dum, am_dum, (.aload_n 2, 33, 2, 0, 0, 0, 0), (.aload_n 0, 34, 0, 0, 0, 0, 0), (.getfield 10, 37, 0, 0, 0, 0, 0), am_dum, am_dum, 
  (.iload 5, 39, 5, 0, 0, 0, 0), am_dum, (.invokevirtual 87, 42, 73, 0, 1, 0, 0), am_dum, am_dum, (.invokevirtual 91, 45, 10, 0, 1, 0, 0), am_dum, am_dum, (.ifCond .eq 6, 48, 51, 0, 0, 0, 0), am_dum, am_dum, 
  (.iinc 4 1, 51, 4, 0, 0, 1, 0), am_dum, am_dum, (.iinc 5 1, 54, 5, 0, 0, 1, 0), am_dum, am_dum, (.goto (-28), 57, 26, 0, 0, 0, 0), am_dum, am_dum, (.aload_n 0, 58, 0, 0, 0, 0, 0), (.getfield 10, 61, 0, 0, 0, 0, 0), am_dum, 
  am_dum, (.invokevirtual 80, 64, 65, 0, 0, 0, 0), am_dum, am_dum, (.aload_n 0, 65, 0, 0, 0, 0, 0), (.getfield 28, 68, 0, 2, 0, 0, 0), am_dum, am_dum, (.aload_n 2, 69, 2, 0, 0, 0, 0), (.invokevirtual 95, 72, 48, 0, 1, 0, 0), 
  am_dum, am_dum, (.iload 4, 74, 4, 0, 0, 0, 0), am_dum, (.ireturn, 75, 0, 0, 0, 0, 0)]
def k_TI_ending : List am_e := [
  (.aload_n 0, 1, 0, 0, 0, 0, 0), (.iload_n 1, 2, 1, 0, 0, 0, 0), (.invokevirtual 69, 5, 100, 0, 1, 0, 0), am_dum, am_dum, (.astore_n 2, 6, 2, 0, 0, 0, 0), (.aload_n 2, 7, 2, 0, 0, 0, 0), (.ifnonnull 5, 10, 12, 0, 0, 0, 0), am_dum, 
  am_dum, (.iconst (-1), 11, 0, 0, 0, -1, 0), (.ireturn, 12, 0, 0, 0, 0, 0), (.aload_n 0, 13, 0, 0, 0, 0, 0), (.getfield 10, 16, 0, 0, 0, 0, 0), am_dum, am_dum, (.invokevirtual 73, 19, 69, 0, 0, 0, 0), am_dum, am_dum, 
  (.istore_n 3, 20, 3, 0, 0, 0, 0), (.aload_n 0, 21, 0, 0, 0, 0, 0), (.getfield 10, 24, 0, 0, 0, 0, 0), am_dum, am_dum, (.iconst 0, 25, 0, 0, 0, 0, 0), (.invokevirtual 87, 28, 73, 0, 1, 0, 0), am_dum, am_dum, 
  (.lstore 4, 30, 4, 0, 0, 0, 0), am_dum, (.aload_n 0, 31, 0, 0, 0, 0, 0), (.getfield 10, 34, 0, 0, 0, 0, 0), am_dum, am_dum, (.iconst 1, 35, 0, 0, 0, 1, 0), (.invokevirtual 87, 38, 73, 0, 1, 0, 0), am_dum, am_dum, 
  (.lstore 6, 40, 6, 0, 0, 0, 0), am_dum, (.aload_n 0, 41, 0, 0, 0, 0, 0), (.getfield 10, 44, 0, 0, 0, 0, 0), am_dum, am_dum, (.invokevirtual 80, 47, 65, 0, 0, 0, 0), am_dum, am_dum, (.iload_n 3, 48, 3, 0, 0, 0, 0), 
  (.iconst 1, 49, 0, 0, 0, 1, 0), (.if_icmp .lt 8, 52, 57, 0, 0, 0, 0), am_dum, am_dum, (.iload_n 3, 53, 3, 0, 0, 0, 0), (.iconst 2, 54, 0, 0, 0, 2, 0), (.if_icmp .le 6, 57, 60, 0, 0, 0, 0), am_dum, am_dum, 
  (.bipush (-2), 59, 0, 0, 0, -2, 0), am_dum, (.ireturn, 60, 0, 0, 0, 0, 0), (.aload_n 2, 61, 2, 0, 0, 0, 0), (.lload 4, 63, 4, 0, 0, 0, 0), am_dum, (.lload 6, 65, 6, 0, 0, 0, 0), am_dum, (.invokevirtual 99, 68, 12, 0, 2, 0, 0), 
  am_dum, am_dum, (.ifCond .ne 6, 71, 74, 0, 0, 0, 0), am_dum, am_dum, (.bipush (-3), 73, 0, 0, 0, -3, 0), am_dum, (.ireturn, 74, 0, 0, 0, 0, 0), (.aload_n 0, 75, 0, 0, 0, 0, 0), (.getfield 28, 78, 0, 2, 0, 0, 0), am_dum, am_dum, 
  (.aload_n 2, 79, 2, 0, 0, 0, 0), (.invokevirtual 95, 82, 48, 0, 1, 0, 0), am_dum, am_dum, (.aload_n 2, 83, 2, 0, 0, 0, 0), (.invokevirtual 103, 86, 11, 0, 0, 0, 0), am_dum, am_dum, (.ireturn, 87, 0, 0, 0, 0, 0)]
def k_TI_stem : List am_e := [
  (.aload_n 0, 1, 0, 0, 0, 0, 0), (.iload_n 1, 2, 1, 0, 0, 0, 0), (.invokevirtual 69, 5, 100, 0, 1, 0, 0), am_dum, am_dum, (.astore_n 2, 6, 2, 0, 0, 0, 0), (.aload_n 2, 7, 2, 0, 0, 0, 0), (.ifnonnull 5, 10, 12, 0, 0, 0, 0), am_dum, 
  am_dum, (.iconst (-1), 11, 0, 0, 0, -1, 0), (.ireturn, 12, 0, 0, 0, 0, 0), (.aload_n 0, 13, 0, 0, 0, 0, 0), (.invokevirtual 106, 16, 101, 0, 0, 0, 0), am_dum, am_dum, (.lstore_n 3, 17, 3, 0, 0, 0, 0), 
  (.lload_n 3, 18, 3, 0, 0, 0, 0), (.lconst 0, 19, 0, 0, 0, 0, 0), (.lcmp, 20, 0, 0, 0, 0, 0), (.ifCond .ne 6, 23, 26, 0, 0, 0, 0), am_dum, am_dum, (.bipush (-2), 25, 0, 0, 0, -2, 0), am_dum, (.ireturn, 26, 0, 0, 0, 0, 0), 
  (.aload_n 0, 27, 0, 0, 0, 0, 0), (.aload_n 2, 28, 2, 0, 0, 0, 0), (.lload_n 3, 29, 3, 0, 0, 0, 0), (.invokevirtual 110, 32, 13, 0, 1, 0, 0), am_dum, am_dum, (.invokevirtual 114, 35, 102, 0, 1, 0, 0), am_dum, am_dum, 
  (.ireturn, 36, 0, 0, 0, 0, 0)]
def k_TI_ask : List am_e := [
  (.aload_n 0, 1, 0, 0, 0, 0, 0), (.iload_n 1, 2, 1, 0, 0, 0, 0), (.invokevirtual 69, 5, 100, 0, 1, 0, 0), am_dum, am_dum, (.astore_n 3, 6, 3, 0, 0, 0, 0), (.aload_n 3, 7, 3, 0, 0, 0, 0), (.ifnull 13, 10, 20, 0, 0, 0, 0), am_dum, 
  am_dum, (.iload_n 2, 11, 2, 0, 0, 0, 0), (.iconst (-1), 12, 0, 0, 0, -1, 0), (.if_icmp .lt 8, 15, 20, 0, 0, 0, 0), am_dum, am_dum, (.iload_n 2, 16, 2, 0, 0, 0, 0), (.iconst 4, 17, 0, 0, 0, 4, 0), 
  (.if_icmp .lt 5, 20, 22, 0, 0, 0, 0), am_dum, am_dum, (.iconst (-1), 21, 0, 0, 0, -1, 0), (.ireturn, 22, 0, 0, 0, 0, 0), (.aload_n 0, 23, 0, 0, 0, 0, 0), (.getfield 37, 26, 0, 3, 0, 0, 0), am_dum, am_dum, 
  (.invokevirtual 118, 29, 28, 0, 0, 0, 0), am_dum, am_dum, (.istore 4, 31, 4, 0, 0, 0, 0), am_dum, (.aload_n 0, 32, 0, 0, 0, 0, 0), (.getfield 10, 35, 0, 0, 0, 0, 0), am_dum, am_dum, (.invokevirtual 80, 38, 65, 0, 0, 0, 0), 
  am_dum, am_dum, (.iload 4, 40, 4, 0, 0, 0, 0), am_dum, (.iconst (-1), 41, 0, 0, 0, -1, 0), (.if_icmp .eq 9, 44, 50, 0, 0, 0, 0), am_dum, am_dum, (.bipush (-10), 46, 0, 0, 0, -10, 0), am_dum, (.iload 4, 48, 4, 0, 0, 0, 0), am_dum, 
  (.isub, 49, 0, 0, 0, 0, 0), (.ireturn, 50, 0, 0, 0, 0, 0), (.aload_n 0, 51, 0, 0, 0, 0, 0), (.getfield 37, 54, 0, 3, 0, 0, 0), am_dum, am_dum, (.aload_n 3, 55, 3, 0, 0, 0, 0), (.invokevirtual 121, 58, 34, 0, 1, 0, 0), am_dum, 
  am_dum, (.aload_n 0, 59, 0, 0, 0, 0, 0), (.getfield 37, 62, 0, 3, 0, 0, 0), am_dum, am_dum, (.aload_n 0, 63, 0, 0, 0, 0, 0), (.getfield 28, 66, 0, 2, 0, 0, 0), am_dum, am_dum, (.iload_n 1, 67, 1, 0, 0, 0, 0), 
  (.iload_n 2, 68, 2, 0, 0, 0, 0), (.invokevirtual 124, 71, 36, 0, 3, 0, 0), am_dum, am_dum, (.aload_n 0, 72, 0, 0, 0, 0, 0), (.getfield 44, 75, 0, 4, 0, 0, 0), am_dum, am_dum, (.invokevirtual 128, 78, 1, 0, 0, 0, 0), am_dum, 
  am_dum, (.iconst 0, 79, 0, 0, 0, 0, 0), (.istore 5, 81, 5, 0, 0, 0, 0), am_dum, (.iload 5, 83, 5, 0, 0, 0, 0), am_dum, (.bipush 40, 85, 0, 0, 0, 40, 0), am_dum, (.if_icmp .ge 61, 88, 146, 0, 0, 0, 0), am_dum, am_dum, 
  (.aload_n 0, 89, 0, 0, 0, 0, 0), (.getfield 28, 92, 0, 2, 0, 0, 0), am_dum, am_dum, (.iload 5, 94, 5, 0, 0, 0, 0), am_dum, (.iload_n 1, 95, 1, 0, 0, 0, 0), (.iload_n 2, 96, 2, 0, 0, 0, 0), 
  (.invokevirtual 129, 99, 45, 0, 3, 0, 0), am_dum, am_dum, (.ifCond .eq 41, 102, 140, 0, 0, 0, 0), am_dum, am_dum, (.aload_n 0, 103, 0, 0, 0, 0, 0), (.getfield 37, 106, 0, 3, 0, 0, 0), am_dum, am_dum, 
  (.aload_n 0, 107, 0, 0, 0, 0, 0), (.getfield 28, 110, 0, 2, 0, 0, 0), am_dum, am_dum, (.iload 5, 112, 5, 0, 0, 0, 0), am_dum, (.invokevirtual 133, 115, 39, 0, 2, 0, 0), am_dum, am_dum, (.ifCond .eq 25, 118, 140, 0, 0, 0, 0), 
  am_dum, am_dum, (.aload_n 0, 119, 0, 0, 0, 0, 0), (.getfield 44, 122, 0, 4, 0, 0, 0), am_dum, am_dum, (.iload 5, 124, 5, 0, 0, 0, 0), am_dum, (.aload_n 0, 125, 0, 0, 0, 0, 0), (.getfield 37, 128, 0, 3, 0, 0, 0), am_dum, am_dum, 
  (.aload_n 0, 129, 0, 0, 0, 0, 0), (.getfield 28, 132, 0, 2, 0, 0, 0), am_dum, am_dum, (.iload 5, 134, 5, 0, 0, 0, 0), am_dum, (.invokevirtual 137, 137, 38, 0, 2, 0, 0), am_dum, am_dum, (.invokevirtual 141, 140, 3, 0, 2, 0, 0), 
  am_dum, am_dum, (.iinc 5 1, 143, 5, 0, 0, 1, 0), am_dum, am_dum, (.goto (-62), 146, 81, 0, 0, 0, 0), am_dum, am_dum, (.aload_n 0, 147, 0, 0, 0, 0, 0), (.getfield 44, 150, 0, 4, 0, 0, 0), am_dum, am_dum, 
  (.invokevirtual 145, 153, 2, 0, 0, 0, 0), am_dum, am_dum, (.ireturn, 154, 0, 0, 0, 0, 0)]
def k_TI_answer : List am_e := [
  (.aload_n 0, 1, 0, 0, 0, 0, 0), (.getfield 44, 4, 0, 4, 0, 0, 0), am_dum, am_dum, (.iload_n 1, 5, 1, 0, 0, 0, 0), (.invokevirtual 148, 8, 5, 0, 1, 0, 0), am_dum, am_dum, (.ireturn, 9, 0, 0, 0, 0, 0)]
def k_TI_score : List am_e := [
  (.aload_n 0, 1, 0, 0, 0, 0, 0), (.getfield 44, 4, 0, 4, 0, 0, 0), am_dum, am_dum, (.iload_n 1, 5, 1, 0, 0, 0, 0), (.invokevirtual 152, 8, 6, 0, 1, 0, 0), am_dum, am_dum, (.lreturn, 9, 0, 0, 0, 0, 0)]
def k_TI_like : List am_e := [
  (.aload_n 0, 1, 0, 0, 0, 0, 0), (.iload_n 1, 2, 1, 0, 0, 0, 0), (.invokevirtual 69, 5, 100, 0, 1, 0, 0), am_dum, am_dum, (.ifnull 12, 8, 17, 0, 0, 0, 0), am_dum, am_dum, (.iload_n 2, 9, 2, 0, 0, 0, 0), 
  (.ifCond .lt 8, 12, 17, 0, 0, 0, 0), am_dum, am_dum, (.iload_n 2, 13, 2, 0, 0, 0, 0), (.iconst 3, 14, 0, 0, 0, 3, 0), (.if_icmp .le 5, 17, 19, 0, 0, 0, 0), am_dum, am_dum, (.iconst (-1), 18, 0, 0, 0, -1, 0), 
  (.ireturn, 19, 0, 0, 0, 0, 0), (.aload_n 0, 20, 0, 0, 0, 0, 0), (.invokevirtual 106, 23, 101, 0, 0, 0, 0), am_dum, am_dum, (.lstore_n 3, 24, 3, 0, 0, 0, 0), (.aload_n 0, 25, 0, 0, 0, 0, 0), (.getfield 51, 28, 0, 5, 0, 0, 0), 
  am_dum, am_dum, (.invokevirtual 155, 31, 17, 0, 0, 0, 0), am_dum, am_dum, (.lload_n 3, 32, 3, 0, 0, 0, 0), (.lconst 0, 33, 0, 0, 0, 0, 0), (.lcmp, 34, 0, 0, 0, 0, 0), (.ifCond .ne 6, 37, 40, 0, 0, 0, 0), am_dum, am_dum, 
  (.bipush (-2), 39, 0, 0, 0, -2, 0), am_dum, (.ireturn, 40, 0, 0, 0, 0, 0), (.aload_n 0, 41, 0, 0, 0, 0, 0), (.getfield 51, 44, 0, 5, 0, 0, 0), am_dum, am_dum, (.aload_n 0, 45, 0, 0, 0, 0, 0), (.getfield 28, 48, 0, 2, 0, 0, 0), 
  am_dum, am_dum, (.iload_n 1, 49, 1, 0, 0, 0, 0), (.lload_n 3, 50, 3, 0, 0, 0, 0), (.iload_n 2, 51, 2, 0, 0, 0, 0), (.invokevirtual 156, 54, 20, 0, 4, 0, 0), am_dum, am_dum, (.aload_n 0, 55, 0, 0, 0, 0, 0), 
  (.getfield 51, 58, 0, 5, 0, 0, 0), am_dum, am_dum, (.invokevirtual 160, 61, 18, 0, 0, 0, 0), am_dum, am_dum, (.ireturn, 62, 0, 0, 0, 0, 0)]
def k_TI_word : List am_e := [
  (.aload_n 0, 1, 0, 0, 0, 0, 0), (.getfield 51, 4, 0, 5, 0, 0, 0), am_dum, am_dum, (.iload_n 1, 5, 1, 0, 0, 0, 0), (.invokevirtual 161, 8, 19, 0, 1, 0, 0), am_dum, am_dum, (.lstore_n 2, 9, 2, 0, 0, 0, 0), 
  (.lload_n 2, 10, 2, 0, 0, 0, 0), (.lconst 0, 11, 0, 0, 0, 0, 0), (.lcmp, 12, 0, 0, 0, 0, 0), (.ifCond .ne 8, 15, 20, 0, 0, 0, 0), am_dum, am_dum, (.bipush (-2), 17, 0, 0, 0, -2, 0), am_dum, (.goto 8, 20, 25, 0, 0, 0, 0), am_dum, 
  am_dum, (.aload_n 0, 21, 0, 0, 0, 0, 0), (.lload_n 2, 22, 2, 0, 0, 0, 0), (.invokevirtual 114, 25, 102, 0, 1, 0, 0), am_dum, am_dum, (.ireturn, 26, 0, 0, 0, 0, 0)]
def k_TI_at : List am_e := [
  (.iload_n 1, 1, 1, 0, 0, 0, 0), (.ifCond .lt 25, 4, 26, 0, 0, 0, 0), am_dum, am_dum, (.iload_n 1, 5, 1, 0, 0, 0, 0), (.aload_n 0, 6, 0, 0, 0, 0, 0), (.getfield 57, 9, 0, 6, 0, 0, 0), am_dum, am_dum, 
  (.invokestatic 162, 12, 80, 3, 1, 0, 0), am_dum, am_dum, (.if_icmp .ge 14, 15, 26, 0, 0, 0, 0), am_dum, am_dum, (.aload_n 0, 16, 0, 0, 0, 0, 0), (.getfield 57, 19, 0, 6, 0, 0, 0), am_dum, am_dum, (.iload_n 1, 20, 1, 0, 0, 0, 0), 
  (.invokestatic 165, 23, 81, 3, 2, 0, 0), am_dum, am_dum, (.goto 4, 26, 27, 0, 0, 0, 0), am_dum, am_dum, (.iconst (-1), 27, 0, 0, 0, -1, 0), (.ireturn, 28, 0, 0, 0, 0, 0)]
def k_TI_place : List am_e := [
  (.aload_n 0, 1, 0, 0, 0, 0, 0), (.getfield 28, 4, 0, 2, 0, 0, 0), am_dum, am_dum, (.iload_n 1, 5, 1, 0, 0, 0, 0), (.iload_n 2, 6, 2, 0, 0, 0, 0), (.invokevirtual 169, 9, 49, 0, 2, 0, 0), am_dum, am_dum, 
  (.ifCond .ne 5, 12, 14, 0, 0, 0, 0), am_dum, am_dum, (.iconst (-1), 13, 0, 0, 0, -1, 0), (.ireturn, 14, 0, 0, 0, 0, 0), (.iload_n 3, 15, 3, 0, 0, 0, 0), (.ifCond .ne 13, 18, 28, 0, 0, 0, 0), am_dum, am_dum, 
  (.aload_n 0, 19, 0, 0, 0, 0, 0), (.getfield 28, 22, 0, 2, 0, 0, 0), am_dum, am_dum, (.iload_n 1, 23, 1, 0, 0, 0, 0), (.iload_n 2, 24, 2, 0, 0, 0, 0), (.invokevirtual 173, 27, 50, 0, 2, 0, 0), am_dum, am_dum, 
  (.ireturn, 28, 0, 0, 0, 0, 0), (.iload_n 3, 29, 3, 0, 0, 0, 0), (.iconst 1, 30, 0, 0, 0, 1, 0), (.if_icmp .ne 15, 33, 45, 0, 0, 0, 0), am_dum, am_dum, (.aload_n 0, 34, 0, 0, 0, 0, 0), (.getfield 28, 37, 0, 2, 0, 0, 0), am_dum, 
  am_dum, (.iload_n 1, 38, 1, 0, 0, 0, 0), (.iload_n 2, 39, 2, 0, 0, 0, 0), (.invokevirtual 177, 42, 51, 0, 2, 0, 0), am_dum, am_dum, (.goto 4, 45, 46, 0, 0, 0, 0), am_dum, am_dum, (.iconst (-1), 46, 0, 0, 0, -1, 0), 
  (.ireturn, 47, 0, 0, 0, 0, 0)]
def k_TI_texts : List am_e := [
  (.aload_n 0, 1, 0, 0, 0, 0, 0), (.getfield 28, 4, 0, 2, 0, 0, 0), am_dum, am_dum, (.invokevirtual 180, 7, 52, 0, 0, 0, 0), am_dum, am_dum, (.ireturn, 8, 0, 0, 0, 0, 0)]
def k_TI_stems : List am_e := [
  (.aload_n 0, 1, 0, 0, 0, 0, 0), (.iload_n 1, 2, 1, 0, 0, 0, 0), (.invokevirtual 69, 5, 100, 0, 1, 0, 0), am_dum, am_dum, (.ifnonnull 7, 8, 12, 0, 0, 0, 0), am_dum, am_dum, (.iconst (-1), 9, 0, 0, 0, -1, 0), 
  (.goto 11, 12, 20, 0, 0, 0, 0), am_dum, am_dum, (.aload_n 0, 13, 0, 0, 0, 0, 0), (.getfield 28, 16, 0, 2, 0, 0, 0), am_dum, am_dum, (.iload_n 1, 17, 1, 0, 0, 0, 0), (.invokevirtual 183, 20, 53, 0, 1, 0, 0), am_dum, am_dum, 
  (.ireturn, 21, 0, 0, 0, 0, 0)]
def k_TI_languageOf : List am_e := [
  (.iload_n 1, 1, 1, 0, 0, 0, 0), (.ifCond .lt 21, 4, 22, 0, 0, 0, 0), am_dum, am_dum, (.iload_n 1, 5, 1, 0, 0, 0, 0), (.aload_n 0, 6, 0, 0, 0, 0, 0), (.getfield 18, 9, 0, 1, 0, 0, 0), am_dum, am_dum, 
  (.arraylength, 10, 0, 0, 0, 0, 0), (.if_icmp .ge 12, 13, 22, 0, 0, 0, 0), am_dum, am_dum, (.aload_n 0, 14, 0, 0, 0, 0, 0), (.getfield 18, 17, 0, 1, 0, 0, 0), am_dum, am_dum, (.iload_n 1, 18, 1, 0, 0, 0, 0), 
  (.aaload, 19, 0, 0, 0, 0, 0), (.goto 4, 22, 23, 0, 0, 0, 0), am_dum, am_dum, (.aconst_null, 23, 0, 0, 0, 0, 0), (.areturn, 24, 0, 0, 0, 0, 0)]
def k_TI_takeFirstWord : List am_e := [
  (.aload_n 0, 1, 0, 0, 0, 0, 0), (.getfield 10, 4, 0, 0, 0, 0, 0), am_dum, am_dum, (.invokevirtual 73, 7, 69, 0, 0, 0, 0), am_dum, am_dum, (.pop, 8, 0, 0, 0, 0, 0), (.aload_n 0, 9, 0, 0, 0, 0, 0), 
  (.getfield 10, 12, 0, 0, 0, 0, 0), am_dum, am_dum, (.iconst 0, 13, 0, 0, 0, 0, 0), (.invokevirtual 87, 16, 73, 0, 1, 0, 0), am_dum, am_dum, (.lstore_n 1, 17, 1, 0, 0, 0, 0), (.aload_n 0, 18, 0, 0, 0, 0, 0), 
  (.getfield 10, 21, 0, 0, 0, 0, 0), am_dum, am_dum, (.invokevirtual 80, 24, 65, 0, 0, 0, 0), am_dum, am_dum, (.lload_n 1, 25, 1, 0, 0, 0, 0), (.lreturn, 26, 0, 0, 0, 0, 0)]
def k_TI_tell : List am_e := [
  (.aload_n 0, 1, 0, 0, 0, 0, 0), (.lload_n 1, 2, 1, 0, 0, 0, 0), (.putfield 57, 5, 0, 6, 0, 0, 0), am_dum, am_dum, (.lload_n 1, 6, 1, 0, 0, 0, 0), (.invokestatic 162, 9, 80, 3, 1, 0, 0), am_dum, am_dum, 
  (.ireturn, 10, 0, 0, 0, 0, 0)]
def k_Mo_init : List am_e := [
  (.aload_n 0, 1, 0, 0, 0, 0, 0), (.invokespecial 1, 4, 0, 4, 0, 0, 0), am_dum, am_dum, (.aload_n 0, 5, 0, 0, 0, 0, 0), (.ldc 7, 7, 0, 0, 0, 72408, 0), am_dum, (.newarray .byte, 9, 1, 0, 0, 0, 0), am_dum, 
  (.putfield 8, 12, 8, 0, 0, 0, 0), am_dum, am_dum, (.aload_n 0, 13, 0, 0, 0, 0, 0), (.sipush 6034, 16, 0, 0, 0, 6034, 0), am_dum, am_dum, (.newarray .int, 18, 0, 0, 0, 0, 0), am_dum, (.putfield 14, 21, 8, 1, 0, 0, 0), am_dum, 
  am_dum, (.aload_n 0, 22, 0, 0, 0, 0, 0), (.bipush 96, 24, 0, 0, 0, 96, 0), am_dum, (.newarray .byte, 26, 1, 0, 0, 0, 0), am_dum, (.putfield 18, 29, 8, 2, 0, 0, 0), am_dum, am_dum, (.aload_n 0, 30, 0, 0, 0, 0, 0), 
  (.bipush 40, 32, 0, 0, 0, 40, 0), am_dum, (.newarray .int, 34, 0, 0, 0, 0, 0), am_dum, (.putfield 21, 37, 8, 4, 0, 0, 0), am_dum, am_dum, (.aload_n 0, 38, 0, 0, 0, 0, 0), (.bipush 40, 40, 0, 0, 0, 40, 0), am_dum, 
  (.newarray .int, 42, 0, 0, 0, 0, 0), am_dum, (.putfield 24, 45, 8, 5, 0, 0, 0), am_dum, am_dum, (.aload_n 0, 46, 0, 0, 0, 0, 0), (.bipush 40, 48, 0, 0, 0, 40, 0), am_dum, (.newarray .int, 50, 0, 0, 0, 0, 0), am_dum, 
  (.putfield 27, 53, 8, 6, 0, 0, 0), am_dum, am_dum, (.aload_n 0, 54, 0, 0, 0, 0, 0), (.sipush 1920, 57, 0, 0, 0, 1920, 0), am_dum, am_dum, (.newarray .int, 59, 0, 0, 0, 0, 0), am_dum, (.putfield 30, 62, 8, 7, 0, 0, 0), am_dum, 
  am_dum, (.aload_n 0, 63, 0, 0, 0, 0, 0), (.sipush 1920, 66, 0, 0, 0, 1920, 0), am_dum, am_dum, (.newarray .int, 68, 0, 0, 0, 0, 0), am_dum, (.putfield 33, 71, 8, 8, 0, 0, 0), am_dum, am_dum, (.aload_n 0, 72, 0, 0, 0, 0, 0), 
  (.sipush 2000, 75, 0, 0, 0, 2000, 0), am_dum, am_dum, (.newarray .int, 77, 0, 0, 0, 0, 0), am_dum, (.putfield 36, 80, 8, 11, 0, 0, 0), am_dum, am_dum, (.aload_n 0, 81, 0, 0, 0, 0, 0), (.iconst 3, 82, 0, 0, 0, 3, 0), 
  (.newarray .int, 84, 0, 0, 0, 0, 0), am_dum, (.putfield 39, 87, 8, 13, 0, 0, 0), am_dum, am_dum, (.aload_n 0, 88, 0, 0, 0, 0, 0), (.bipush 48, 90, 0, 0, 0, 48, 0), am_dum, (.newarray .int, 92, 0, 0, 0, 0, 0), am_dum, 
  (.putfield 42, 95, 8, 15, 0, 0, 0), am_dum, am_dum, (.aload_n 0, 96, 0, 0, 0, 0, 0), (.bipush 48, 98, 0, 0, 0, 48, 0), am_dum, (.newarray .int, 100, 0, 0, 0, 0, 0), am_dum, (.putfield 45, 103, 8, 16, 0, 0, 0), am_dum, am_dum, 
  (.aload_n 0, 104, 0, 0, 0, 0, 0), (.bipush 96, 106, 0, 0, 0, 96, 0), am_dum, (.newarray .int, 108, 0, 0, 0, 0, 0), am_dum, (.putfield 48, 111, 8, 17, 0, 0, 0), am_dum, am_dum, (.aload_n 0, 112, 0, 0, 0, 0, 0), 
  (.bipush 96, 114, 0, 0, 0, 96, 0), am_dum, (.newarray .int, 116, 0, 0, 0, 0, 0), am_dum, (.putfield 51, 119, 8, 18, 0, 0, 0), am_dum, am_dum, (.aload_n 0, 120, 0, 0, 0, 0, 0), (.bipush 96, 122, 0, 0, 0, 96, 0), am_dum, 
  (.newarray .int, 124, 0, 0, 0, 0, 0), am_dum, (.putfield 54, 127, 8, 19, 0, 0, 0), am_dum, am_dum, (.aload_n 0, 128, 0, 0, 0, 0, 0), (.bipush 96, 130, 0, 0, 0, 96, 0), am_dum, (.newarray .int, 132, 0, 0, 0, 0, 0), am_dum, 
  (.putfield 57, 135, 8, 20, 0, 0, 0), am_dum, am_dum, (.aload_n 0, 136, 0, 0, 0, 0, 0), (.bipush 40, 138, 0, 0, 0, 40, 0), am_dum, (.newarray .int, 140, 0, 0, 0, 0, 0), am_dum, (.putfield 60, 143, 8, 25, 0, 0, 0), am_dum, am_dum, 
  (.aload_n 0, 144, 0, 0, 0, 0, 0), (.bipush 40, 146, 0, 0, 0, 40, 0), am_dum, (.newarray .long, 148, 3, 0, 0, 0, 0), am_dum, (.putfield 63, 151, 8, 26, 0, 0, 0), am_dum, am_dum, (.aload_n 0, 152, 0, 0, 0, 0, 0), 
  (.sipush 1920, 155, 0, 0, 0, 1920, 0), am_dum, am_dum, (.newarray .int, 157, 0, 0, 0, 0, 0), am_dum, (.putfield 67, 160, 8, 28, 0, 0, 0), am_dum, am_dum, (.aload_n 0, 161, 0, 0, 0, 0, 0), (.bipush 12, 163, 0, 0, 0, 12, 0), 
  am_dum, (.newarray .byte, 165, 1, 0, 0, 0, 0), am_dum, (.putfield 70, 168, 8, 30, 0, 0, 0), am_dum, am_dum, (.aload_n 0, 169, 0, 0, 0, 0, 0), (.sipush 169, 172, 0, 0, 0, 169, 0), am_dum, am_dum, 
  (.newarray .int, 174, 0, 0, 0, 0, 0), am_dum, (.putfield 73, 177, 8, 32, 0, 0, 0), am_dum, am_dum, (.return_, 178, 0, 0, 0, 0, 0)]
def k_Mo_byteOf : List am_e := [
  (.aload_n 0, 1, 0, 0, 0, 0, 0), (.getfield 8, 4, 8, 0, 0, 0, 0), am_dum, am_dum, (.bipush 12, 6, 0, 0, 0, 12, 0), am_dum, (.iload_n 1, 7, 1, 0, 0, 0, 0), (.imul, 8, 0, 0, 0, 0, 0), (.iload_n 2, 9, 2, 0, 0, 0, 0), 
  (.iadd, 10, 0, 0, 0, 0, 0), (.baload, 11, 0, 0, 0, 0, 0), (.ireturn, 12, 0, 0, 0, 0, 0)]
def k_Mo_same : List am_e := [
  (.aload_n 0, 1, 0, 0, 0, 0, 0), (.getfield 14, 4, 8, 1, 0, 0, 0), am_dum, am_dum, (.iload_n 1, 5, 1, 0, 0, 0, 0), (.iaload, 6, 0, 0, 0, 0, 0), (.aload_n 0, 7, 0, 0, 0, 0, 0), (.getfield 14, 10, 8, 1, 0, 0, 0), am_dum, am_dum, 
  (.iload_n 2, 11, 2, 0, 0, 0, 0), (.iaload, 12, 0, 0, 0, 0, 0), (.if_icmp .ne 7, 15, 19, 0, 0, 0, 0), am_dum, am_dum, (.iconst 1, 16, 0, 0, 0, 1, 0), (.goto 4, 19, 20, 0, 0, 0, 0), am_dum, am_dum, (.iconst 0, 20, 0, 0, 0, 0, 0), 
  (.istore_n 3, 21, 3, 0, 0, 0, 0), (.iconst 0, 22, 0, 0, 0, 0, 0), (.istore 4, 24, 4, 0, 0, 0, 0), am_dum, (.iload 4, 26, 4, 0, 0, 0, 0), am_dum, (.aload_n 0, 27, 0, 0, 0, 0, 0), (.getfield 14, 30, 8, 1, 0, 0, 0), am_dum, am_dum, 
  (.iload_n 1, 31, 1, 0, 0, 0, 0), (.iaload, 32, 0, 0, 0, 0, 0), (.if_icmp .ge 36, 35, 68, 0, 0, 0, 0), am_dum, am_dum, (.iload_n 3, 36, 3, 0, 0, 0, 0), (.ifCond .eq 32, 39, 68, 0, 0, 0, 0), am_dum, am_dum, 
  (.aload_n 0, 40, 0, 0, 0, 0, 0), (.iload_n 1, 41, 1, 0, 0, 0, 0), (.iload 4, 43, 4, 0, 0, 0, 0), am_dum, (.invokevirtual 76, 46, 104, 0, 2, 0, 0), am_dum, am_dum, (.aload_n 0, 47, 0, 0, 0, 0, 0), (.iload_n 2, 48, 2, 0, 0, 0, 0), 
  (.iload 4, 50, 4, 0, 0, 0, 0), am_dum, (.invokevirtual 76, 53, 104, 0, 2, 0, 0), am_dum, am_dum, (.if_icmp .ne 7, 56, 60, 0, 0, 0, 0), am_dum, am_dum, (.iconst 1, 57, 0, 0, 0, 1, 0), (.goto 4, 60, 61, 0, 0, 0, 0), am_dum, am_dum, 
  (.iconst 0, 61, 0, 0, 0, 0, 0), (.istore_n 3, 62, 3, 0, 0, 0, 0), (.iinc 4 1, 65, 4, 0, 0, 1, 0), am_dum, am_dum, (.goto (-41), 68, 24, 0, 0, 0, 0), am_dum, am_dum, (.iload_n 3, 69, 3, 0, 0, 0, 0), (.ireturn, 70, 1, 0, 0, 0, 0)]
def k_Mo_beginsSo : List am_e := [
  (.aload_n 0, 1, 0, 0, 0, 0, 0), (.getfield 14, 4, 8, 1, 0, 0, 0), am_dum, am_dum, (.iload_n 1, 5, 1, 0, 0, 0, 0), (.iaload, 6, 0, 0, 0, 0, 0), (.aload_n 0, 7, 0, 0, 0, 0, 0), (.getfield 14, 10, 8, 1, 0, 0, 0), am_dum, am_dum, 
  (.iload_n 2, 11, 2, 0, 0, 0, 0), (.iaload, 12, 0, 0, 0, 0, 0), (.if_icmp .lt 7, 15, 19, 0, 0, 0, 0), am_dum, am_dum, (.iconst 1, 16, 0, 0, 0, 1, 0), (.goto 4, 19, 20, 0, 0, 0, 0), am_dum, am_dum, (.iconst 0, 20, 0, 0, 0, 0, 0), 
  (.istore_n 3, 21, 3, 0, 0, 0, 0), (.iconst 0, 22, 0, 0, 0, 0, 0), (.istore 4, 24, 4, 0, 0, 0, 0), am_dum, (.iload 4, 26, 4, 0, 0, 0, 0), am_dum, (.aload_n 0, 27, 0, 0, 0, 0, 0), (.getfield 14, 30, 8, 1, 0, 0, 0), am_dum, am_dum, 
  (.iload_n 2, 31, 2, 0, 0, 0, 0), (.iaload, 32, 0, 0, 0, 0, 0), (.if_icmp .ge 36, 35, 68, 0, 0, 0, 0), am_dum, am_dum, (.iload_n 3, 36, 3, 0, 0, 0, 0), (.ifCond .eq 32, 39, 68, 0, 0, 0, 0), am_dum, am_dum, 
  (.aload_n 0, 40, 0, 0, 0, 0, 0), (.iload_n 1, 41, 1, 0, 0, 0, 0), (.iload 4, 43, 4, 0, 0, 0, 0), am_dum, (.invokevirtual 76, 46, 104, 0, 2, 0, 0), am_dum, am_dum, (.aload_n 0, 47, 0, 0, 0, 0, 0), (.iload_n 2, 48, 2, 0, 0, 0, 0), 
  (.iload 4, 50, 4, 0, 0, 0, 0), am_dum, (.invokevirtual 76, 53, 104, 0, 2, 0, 0), am_dum, am_dum, (.if_icmp .ne 7, 56, 60, 0, 0, 0, 0), am_dum, am_dum, (.iconst 1, 57, 0, 0, 0, 1, 0), (.goto 4, 60, 61, 0, 0, 0, 0), am_dum, am_dum, 
  (.iconst 0, 61, 0, 0, 0, 0, 0), (.istore_n 3, 62, 3, 0, 0, 0, 0), (.iinc 4 1, 65, 4, 0, 0, 1, 0), am_dum, am_dum, (.goto (-41), 68, 24, 0, 0, 0, 0), am_dum, am_dum, (.iload_n 3, 69, 3, 0, 0, 0, 0), (.ireturn, 70, 1, 0, 0, 0, 0)]
def k_Mo_add : List am_e := [
  (.aload_n 0, 1, 0, 0, 0, 0, 0), (.getfield 14, 4, 8, 1, 0, 0, 0), am_dum, am_dum, (.iload_n 1, 5, 1, 0, 0, 0, 0), (.iaload, 6, 0, 0, 0, 0, 0), (.bipush 12, 8, 0, 0, 0, 12, 0), am_dum, (.if_icmp .ne 4, 11, 12, 0, 0, 0, 0), am_dum, 
  am_dum, (.return_, 12, 0, 0, 0, 0, 0), (.aload_n 0, 13, 0, 0, 0, 0, 0), (.getfield 8, 16, 8, 0, 0, 0, 0), am_dum, am_dum, (.bipush 12, 18, 0, 0, 0, 12, 0), am_dum, (.iload_n 1, 19, 1, 0, 0, 0, 0), (.imul, 20, 0, 0, 0, 0, 0), 
  (.aload_n 0, 21, 0, 0, 0, 0, 0), (.getfield 14, 24, 8, 1, 0, 0, 0), am_dum, am_dum, (.iload_n 1, 25, 1, 0, 0, 0, 0), (.iaload, 26, 0, 0, 0, 0, 0), (.iadd, 27, 0, 0, 0, 0, 0), (.iload_n 2, 28, 2, 0, 0, 0, 0), 
  (.i2b, 29, 0, 0, 0, 0, 0), (.bastore, 30, 0, 0, 0, 0, 0), (.aload_n 0, 31, 0, 0, 0, 0, 0), (.getfield 14, 34, 8, 1, 0, 0, 0), am_dum, am_dum, (.iload_n 1, 35, 1, 0, 0, 0, 0), (.dup2, 36, 0, 0, 0, 0, 0), 
  (.iaload, 37, 0, 0, 0, 0, 0), (.iconst 1, 38, 0, 0, 0, 1, 0), (.iadd, 39, 0, 0, 0, 0, 0), (.iastore, 40, 0, 0, 0, 0, 0), (.return_, 41, 0, 0, 0, 0, 0)]
def k_Mo_copy : List am_e := [
  (.aload_n 0, 1, 0, 0, 0, 0, 0), (.getfield 14, 4, 8, 1, 0, 0, 0), am_dum, am_dum, (.iload_n 2, 5, 2, 0, 0, 0, 0), (.iconst 0, 6, 0, 0, 0, 0, 0), (.iastore, 7, 0, 0, 0, 0, 0), (.iconst 0, 8, 0, 0, 0, 0, 0), 
  (.istore_n 3, 9, 3, 0, 0, 0, 0), (.iload_n 3, 10, 3, 0, 0, 0, 0), (.aload_n 0, 11, 0, 0, 0, 0, 0), (.getfield 14, 14, 8, 1, 0, 0, 0), am_dum, am_dum, (.iload_n 1, 15, 1, 0, 0, 0, 0), (.iaload, 16, 0, 0, 0, 0, 0), 
  (.if_icmp .ge 20, 19, 36, 0, 0, 0, 0), am_dum, am_dum, (.aload_n 0, 20, 0, 0, 0, 0, 0), (.iload_n 2, 21, 2, 0, 0, 0, 0), (.aload_n 0, 22, 0, 0, 0, 0, 0), (.iload_n 1, 23, 1, 0, 0, 0, 0), (.iload_n 3, 24, 3, 0, 0, 0, 0), 
  (.invokevirtual 76, 27, 104, 0, 2, 0, 0), am_dum, am_dum, (.invokevirtual 80, 30, 107, 0, 2, 0, 0), am_dum, am_dum, (.iinc 3 1, 33, 3, 0, 0, 1, 0), am_dum, am_dum, (.goto (-24), 36, 9, 0, 0, 0, 0), am_dum, am_dum, 
  (.return_, 37, 0, 0, 0, 0, 0)]
def k_Mo_letter : List am_e := [
  (.iload_n 0, 1, 0, 0, 0, 0, 0), (.bipush 65, 3, 0, 0, 0, 65, 0), am_dum, (.if_icmp .lt 14, 6, 17, 0, 0, 0, 0), am_dum, am_dum, (.iload_n 0, 7, 0, 0, 0, 0, 0), (.bipush 90, 9, 0, 0, 0, 90, 0), am_dum, 
  (.if_icmp .gt 8, 12, 17, 0, 0, 0, 0), am_dum, am_dum, (.iload_n 0, 13, 0, 0, 0, 0, 0), (.bipush 32, 15, 0, 0, 0, 32, 0), am_dum, (.iadd, 16, 0, 0, 0, 0, 0), (.ireturn, 17, 0, 0, 0, 0, 0), (.iload_n 0, 18, 0, 0, 0, 0, 0), 
  (.bipush 97, 20, 0, 0, 0, 97, 0), am_dum, (.if_icmp .lt 9, 23, 29, 0, 0, 0, 0), am_dum, am_dum, (.iload_n 0, 24, 0, 0, 0, 0, 0), (.bipush 122, 26, 0, 0, 0, 122, 0), am_dum, (.if_icmp .le 15, 29, 41, 0, 0, 0, 0), am_dum, am_dum, 
  (.iload_n 0, 30, 0, 0, 0, 0, 0), (.bipush 48, 32, 0, 0, 0, 48, 0), am_dum, (.if_icmp .lt 13, 35, 45, 0, 0, 0, 0), am_dum, am_dum, (.iload_n 0, 36, 0, 0, 0, 0, 0), (.bipush 57, 38, 0, 0, 0, 57, 0), am_dum, 
  (.if_icmp .gt 7, 41, 45, 0, 0, 0, 0), am_dum, am_dum, (.iload_n 0, 42, 0, 0, 0, 0, 0), (.goto 4, 45, 46, 0, 0, 0, 0), am_dum, am_dum, (.iconst 0, 46, 0, 0, 0, 0, 0), (.ireturn, 47, 0, 0, 0, 0, 0)]
def k_Mo_type : List am_e := [
  (.iload_n 3, 1, 3, 0, 0, 0, 0), (.iconst 1, 2, 0, 0, 0, 1, 0), (.if_icmp .lt 9, 5, 11, 0, 0, 0, 0), am_dum, am_dum, (.iload_n 3, 6, 3, 0, 0, 0, 0), (.bipush 8, 8, 0, 0, 0, 8, 0), am_dum, (.if_icmp .le 5, 11, 13, 0, 0, 0, 0), 
  am_dum, am_dum, (.iconst (-1), 12, 0, 0, 0, -1, 0), (.ireturn, 13, 0, 0, 0, 0, 0), (.aload_n 0, 14, 0, 0, 0, 0, 0), (.getfield 84, 17, 8, 3, 0, 0, 0), am_dum, am_dum, (.iload_n 3, 18, 3, 0, 0, 0, 0), (.iadd, 19, 0, 0, 0, 0, 0), 
  (.bipush 96, 21, 0, 0, 0, 96, 0), am_dum, (.if_icmp .le 6, 24, 27, 0, 0, 0, 0), am_dum, am_dum, (.bipush (-3), 26, 0, 0, 0, -3, 0), am_dum, (.ireturn, 27, 0, 0, 0, 0, 0), (.iload_n 3, 28, 3, 0, 0, 0, 0), 
  (.iconst 1, 29, 0, 0, 0, 1, 0), (.isub, 30, 0, 0, 0, 0, 0), (.istore 4, 32, 4, 0, 0, 0, 0), am_dum, (.iload 4, 34, 4, 0, 0, 0, 0), am_dum, (.ifCond .lt 37, 37, 71, 0, 0, 0, 0), am_dum, am_dum, (.aload_n 0, 38, 0, 0, 0, 0, 0), 
  (.getfield 18, 41, 8, 2, 0, 0, 0), am_dum, am_dum, (.aload_n 0, 42, 0, 0, 0, 0, 0), (.getfield 84, 45, 8, 3, 0, 0, 0), am_dum, am_dum, (.lload_n 1, 46, 1, 0, 0, 0, 0), (.bipush 8, 48, 0, 0, 0, 8, 0), am_dum, 
  (.iload 4, 50, 4, 0, 0, 0, 0), am_dum, (.imul, 51, 0, 0, 0, 0, 0), (.lshr, 52, 0, 0, 0, 0, 0), (.l2i, 53, 0, 0, 0, 0, 0), (.i2b, 54, 0, 0, 0, 0, 0), (.bastore, 55, 0, 0, 0, 0, 0), (.aload_n 0, 56, 0, 0, 0, 0, 0), 
  (.dup, 57, 0, 0, 0, 0, 0), (.getfield 84, 60, 8, 3, 0, 0, 0), am_dum, am_dum, (.iconst 1, 61, 0, 0, 0, 1, 0), (.iadd, 62, 0, 0, 0, 0, 0), (.putfield 84, 65, 8, 3, 0, 0, 0), am_dum, am_dum, (.iinc 4 (-1), 68, 4, 0, 0, -1, 0), 
  am_dum, am_dum, (.goto (-36), 71, 32, 0, 0, 0, 0), am_dum, am_dum, (.aload_n 0, 72, 0, 0, 0, 0, 0), (.getfield 84, 75, 8, 3, 0, 0, 0), am_dum, am_dum, (.ireturn, 76, 0, 0, 0, 0, 0)]
def k_Mo_readWords : List am_e := [
  (.aload_n 0, 1, 0, 0, 0, 0, 0), (.iconst 0, 2, 0, 0, 0, 0, 0), (.putfield 88, 5, 8, 14, 0, 0, 0), am_dum, am_dum, (.iconst 0, 6, 0, 0, 0, 0, 0), (.istore_n 1, 7, 1, 0, 0, 0, 0), (.iconst 0, 8, 0, 0, 0, 0, 0), 
  (.istore_n 2, 9, 2, 0, 0, 0, 0), (.iload_n 2, 10, 2, 0, 0, 0, 0), (.aload_n 0, 11, 0, 0, 0, 0, 0), (.getfield 84, 14, 8, 3, 0, 0, 0), am_dum, am_dum, (.if_icmp .ge 118, 17, 132, 0, 0, 0, 0), am_dum, am_dum, 
  (.aload_n 0, 18, 0, 0, 0, 0, 0), (.getfield 18, 21, 8, 2, 0, 0, 0), am_dum, am_dum, (.iload_n 2, 22, 2, 0, 0, 0, 0), (.baload, 23, 0, 0, 0, 0, 0), (.invokestatic 91, 26, 109, 3, 1, 0, 0), am_dum, am_dum, 
  (.istore_n 3, 27, 3, 0, 0, 0, 0), (.iload_n 3, 28, 3, 0, 0, 0, 0), (.ifCond .eq 51, 31, 79, 0, 0, 0, 0), am_dum, am_dum, (.iload_n 1, 32, 1, 0, 0, 0, 0), (.ifCond .ne 47, 35, 79, 0, 0, 0, 0), am_dum, am_dum, 
  (.aload_n 0, 36, 0, 0, 0, 0, 0), (.getfield 14, 39, 8, 1, 0, 0, 0), am_dum, am_dum, (.sipush 3968, 42, 0, 0, 0, 3968, 0), am_dum, am_dum, (.aload_n 0, 43, 0, 0, 0, 0, 0), (.getfield 88, 46, 8, 14, 0, 0, 0), am_dum, am_dum, 
  (.iadd, 47, 0, 0, 0, 0, 0), (.iconst 0, 48, 0, 0, 0, 0, 0), (.iastore, 49, 0, 0, 0, 0, 0), (.aload_n 0, 50, 0, 0, 0, 0, 0), (.getfield 42, 53, 8, 15, 0, 0, 0), am_dum, am_dum, (.aload_n 0, 54, 0, 0, 0, 0, 0), 
  (.getfield 88, 57, 8, 14, 0, 0, 0), am_dum, am_dum, (.iload_n 2, 58, 2, 0, 0, 0, 0), (.iastore, 59, 0, 0, 0, 0, 0), (.aload_n 0, 60, 0, 0, 0, 0, 0), (.getfield 45, 63, 8, 16, 0, 0, 0), am_dum, am_dum, 
  (.aload_n 0, 64, 0, 0, 0, 0, 0), (.getfield 88, 67, 8, 14, 0, 0, 0), am_dum, am_dum, (.iconst 0, 68, 0, 0, 0, 0, 0), (.iastore, 69, 0, 0, 0, 0, 0), (.aload_n 0, 70, 0, 0, 0, 0, 0), (.dup, 71, 0, 0, 0, 0, 0), 
  (.getfield 88, 74, 8, 14, 0, 0, 0), am_dum, am_dum, (.iconst 1, 75, 0, 0, 0, 1, 0), (.iadd, 76, 0, 0, 0, 0, 0), (.putfield 88, 79, 8, 14, 0, 0, 0), am_dum, am_dum, (.iload_n 3, 80, 3, 0, 0, 0, 0), 
  (.ifCond .eq 7, 83, 87, 0, 0, 0, 0), am_dum, am_dum, (.iconst 1, 84, 0, 0, 0, 1, 0), (.goto 4, 87, 88, 0, 0, 0, 0), am_dum, am_dum, (.iconst 0, 88, 0, 0, 0, 0, 0), (.istore_n 1, 89, 1, 0, 0, 0, 0), 
  (.iload_n 1, 90, 1, 0, 0, 0, 0), (.ifCond .ne 6, 93, 96, 0, 0, 0, 0), am_dum, am_dum, (.goto 33, 96, 126, 0, 0, 0, 0), am_dum, am_dum, (.aload_n 0, 97, 0, 0, 0, 0, 0), (.sipush 3968, 100, 0, 0, 0, 3968, 0), am_dum, am_dum, 
  (.aload_n 0, 101, 0, 0, 0, 0, 0), (.getfield 88, 104, 8, 14, 0, 0, 0), am_dum, am_dum, (.iadd, 105, 0, 0, 0, 0, 0), (.iconst 1, 106, 0, 0, 0, 1, 0), (.isub, 107, 0, 0, 0, 0, 0), (.iload_n 3, 108, 3, 0, 0, 0, 0), 
  (.invokevirtual 80, 111, 107, 0, 2, 0, 0), am_dum, am_dum, (.aload_n 0, 112, 0, 0, 0, 0, 0), (.getfield 45, 115, 8, 16, 0, 0, 0), am_dum, am_dum, (.aload_n 0, 116, 0, 0, 0, 0, 0), (.getfield 88, 119, 8, 14, 0, 0, 0), am_dum, 
  am_dum, (.iconst 1, 120, 0, 0, 0, 1, 0), (.isub, 121, 0, 0, 0, 0, 0), (.dup2, 122, 0, 0, 0, 0, 0), (.iaload, 123, 0, 0, 0, 0, 0), (.iconst 1, 124, 0, 0, 0, 1, 0), (.iadd, 125, 0, 0, 0, 0, 0), (.iastore, 126, 0, 0, 0, 0, 0), 
  (.iinc 2 1, 129, 2, 0, 0, 1, 0), am_dum, am_dum, (.goto (-120), 132, 9, 0, 0, 0, 0), am_dum, am_dum, (.aload_n 0, 133, 0, 0, 0, 0, 0), (.iconst 0, 134, 0, 0, 0, 0, 0), (.putfield 84, 137, 8, 3, 0, 0, 0), am_dum, am_dum, 
  (.return_, 138, 0, 0, 0, 0, 0)]
def k_Mo_isLanguage : List am_e := [
  (.iload_n 0, 1, 0, 0, 0, 0, 0), (.ifCond .lt 12, 4, 13, 0, 0, 0, 0), am_dum, am_dum, (.iload_n 0, 5, 0, 0, 0, 0, 0), (.iconst 3, 6, 0, 0, 0, 3, 0), (.if_icmp .ge 7, 9, 13, 0, 0, 0, 0), am_dum, am_dum, 
  (.iconst 1, 10, 0, 0, 0, 1, 0), (.goto 4, 13, 14, 0, 0, 0, 0), am_dum, am_dum, (.iconst 0, 14, 0, 0, 0, 0, 0), (.ireturn, 15, 1, 0, 0, 0, 0)]
def k_Mo_isStop : List am_e := [
  (.iconst 0, 1, 0, 0, 0, 0, 0), (.istore_n 3, 2, 3, 0, 0, 0, 0), (.iload_n 3, 3, 3, 0, 0, 0, 0), (.aload_n 0, 4, 0, 0, 0, 0, 0), (.getfield 95, 7, 8, 12, 0, 0, 0), am_dum, am_dum, (.if_icmp .ge 34, 10, 41, 0, 0, 0, 0), am_dum, 
  am_dum, (.aload_n 0, 11, 0, 0, 0, 0, 0), (.getfield 36, 14, 8, 11, 0, 0, 0), am_dum, am_dum, (.iload_n 3, 15, 3, 0, 0, 0, 0), (.iaload, 16, 0, 0, 0, 0, 0), (.iload_n 1, 17, 1, 0, 0, 0, 0), (.if_icmp .ne 18, 20, 35, 0, 0, 0, 0), 
  am_dum, am_dum, (.aload_n 0, 21, 0, 0, 0, 0, 0), (.sipush 1920, 24, 0, 0, 0, 1920, 0), am_dum, am_dum, (.iload_n 3, 25, 3, 0, 0, 0, 0), (.iadd, 26, 0, 0, 0, 0, 0), (.iload_n 2, 27, 2, 0, 0, 0, 0), 
  (.invokevirtual 98, 30, 105, 0, 2, 0, 0), am_dum, am_dum, (.ifCond .eq 5, 33, 35, 0, 0, 0, 0), am_dum, am_dum, (.iconst 1, 34, 0, 0, 0, 1, 0), (.ireturn, 35, 1, 0, 0, 0, 0), (.iinc 3 1, 38, 3, 0, 0, 1, 0), am_dum, am_dum, 
  (.goto (-36), 41, 2, 0, 0, 0, 0), am_dum, am_dum, (.iconst 0, 42, 0, 0, 0, 0, 0), (.ireturn, 43, 1, 0, 0, 0, 0)]
def k_Mo_stop : List am_e := [
  (.iload_n 1, 1, 1, 0, 0, 0, 0), (.invokestatic 102, 4, 112, 3, 1, 0, 0), am_dum, am_dum, (.ifCond .ne 5, 7, 9, 0, 0, 0, 0), am_dum, am_dum, (.iconst (-1), 8, 0, 0, 0, -1, 0), (.ireturn, 9, 0, 0, 0, 0, 0), 
  (.aload_n 0, 10, 0, 0, 0, 0, 0), (.invokevirtual 106, 13, 111, 0, 0, 0, 0), am_dum, am_dum, (.iconst 0, 14, 0, 0, 0, 0, 0), (.istore_n 2, 15, 2, 0, 0, 0, 0), (.iconst 0, 16, 0, 0, 0, 0, 0), (.istore_n 3, 17, 3, 0, 0, 0, 0), 
  (.iload_n 3, 18, 3, 0, 0, 0, 0), (.aload_n 0, 19, 0, 0, 0, 0, 0), (.getfield 88, 22, 8, 14, 0, 0, 0), am_dum, am_dum, (.if_icmp .ge 65, 25, 87, 0, 0, 0, 0), am_dum, am_dum, (.aload_n 0, 26, 0, 0, 0, 0, 0), 
  (.iload_n 1, 27, 1, 0, 0, 0, 0), (.sipush 3968, 30, 0, 0, 0, 3968, 0), am_dum, am_dum, (.iload_n 3, 31, 3, 0, 0, 0, 0), (.iadd, 32, 0, 0, 0, 0, 0), (.invokevirtual 109, 35, 113, 0, 2, 0, 0), am_dum, am_dum, 
  (.ifCond .eq 6, 38, 41, 0, 0, 0, 0), am_dum, am_dum, (.goto 43, 41, 81, 0, 0, 0, 0), am_dum, am_dum, (.aload_n 0, 42, 0, 0, 0, 0, 0), (.getfield 36, 45, 8, 11, 0, 0, 0), am_dum, am_dum, (.aload_n 0, 46, 0, 0, 0, 0, 0), 
  (.getfield 95, 49, 8, 12, 0, 0, 0), am_dum, am_dum, (.iload_n 1, 50, 1, 0, 0, 0, 0), (.iastore, 51, 0, 0, 0, 0, 0), (.aload_n 0, 52, 0, 0, 0, 0, 0), (.sipush 3968, 55, 0, 0, 0, 3968, 0), am_dum, am_dum, 
  (.iload_n 3, 56, 3, 0, 0, 0, 0), (.iadd, 57, 0, 0, 0, 0, 0), (.sipush 1920, 60, 0, 0, 0, 1920, 0), am_dum, am_dum, (.aload_n 0, 61, 0, 0, 0, 0, 0), (.getfield 95, 64, 8, 12, 0, 0, 0), am_dum, am_dum, (.iadd, 65, 0, 0, 0, 0, 0), 
  (.invokevirtual 112, 68, 108, 0, 2, 0, 0), am_dum, am_dum, (.aload_n 0, 69, 0, 0, 0, 0, 0), (.dup, 70, 0, 0, 0, 0, 0), (.getfield 95, 73, 8, 12, 0, 0, 0), am_dum, am_dum, (.iconst 1, 74, 0, 0, 0, 1, 0), 
  (.iadd, 75, 0, 0, 0, 0, 0), (.putfield 95, 78, 8, 12, 0, 0, 0), am_dum, am_dum, (.iinc 2 1, 81, 2, 0, 0, 1, 0), am_dum, am_dum, (.iinc 3 1, 84, 3, 0, 0, 1, 0), am_dum, am_dum, (.goto (-67), 87, 17, 0, 0, 0, 0), am_dum, am_dum, 
  (.iload_n 2, 88, 2, 0, 0, 0, 0), (.ireturn, 89, 0, 0, 0, 0, 0)]
def k_Mo_endingAt : List am_e := [
  (.sipush 3920, 3, 0, 0, 0, 3920, 0), am_dum, am_dum, (.bipush 16, 5, 0, 0, 0, 16, 0), am_dum, (.iload_n 0, 6, 0, 0, 0, 0, 0), (.imul, 7, 0, 0, 0, 0, 0), (.iadd, 8, 0, 0, 0, 0, 0), (.iconst 2, 9, 0, 0, 0, 2, 0), 
  (.iload_n 1, 10, 1, 0, 0, 0, 0), (.imul, 11, 0, 0, 0, 0, 0), (.iadd, 12, 0, 0, 0, 0, 0), (.ireturn, 13, 0, 0, 0, 0, 0)]
def k_Mo_ending : List am_e := [
  (.iload_n 1, 1, 1, 0, 0, 0, 0), (.invokestatic 102, 4, 112, 3, 1, 0, 0), am_dum, am_dum, (.ifCond .ne 5, 7, 9, 0, 0, 0, 0), am_dum, am_dum, (.iconst (-1), 8, 0, 0, 0, -1, 0), (.ireturn, 9, 0, 0, 0, 0, 0), 
  (.aload_n 0, 10, 0, 0, 0, 0, 0), (.invokevirtual 106, 13, 111, 0, 0, 0, 0), am_dum, am_dum, (.aload_n 0, 14, 0, 0, 0, 0, 0), (.getfield 88, 17, 8, 14, 0, 0, 0), am_dum, am_dum, (.ifCond .eq 11, 20, 28, 0, 0, 0, 0), am_dum, 
  am_dum, (.aload_n 0, 21, 0, 0, 0, 0, 0), (.getfield 88, 24, 8, 14, 0, 0, 0), am_dum, am_dum, (.iconst 2, 25, 0, 0, 0, 2, 0), (.if_icmp .le 6, 28, 31, 0, 0, 0, 0), am_dum, am_dum, (.bipush (-2), 30, 0, 0, 0, -2, 0), am_dum, 
  (.ireturn, 31, 0, 0, 0, 0, 0), (.aload_n 0, 32, 0, 0, 0, 0, 0), (.getfield 39, 35, 8, 13, 0, 0, 0), am_dum, am_dum, (.iload_n 1, 36, 1, 0, 0, 0, 0), (.iaload, 37, 0, 0, 0, 0, 0), (.bipush 8, 39, 0, 0, 0, 8, 0), am_dum, 
  (.if_icmp .ne 6, 42, 45, 0, 0, 0, 0), am_dum, am_dum, (.bipush (-3), 44, 0, 0, 0, -3, 0), am_dum, (.ireturn, 45, 0, 0, 0, 0, 0), (.iload_n 1, 46, 1, 0, 0, 0, 0), (.aload_n 0, 47, 0, 0, 0, 0, 0), 
  (.getfield 39, 50, 8, 13, 0, 0, 0), am_dum, am_dum, (.iload_n 1, 51, 1, 0, 0, 0, 0), (.iaload, 52, 0, 0, 0, 0, 0), (.invokestatic 115, 55, 115, 3, 2, 0, 0), am_dum, am_dum, (.istore_n 2, 56, 2, 0, 0, 0, 0), 
  (.aload_n 0, 57, 0, 0, 0, 0, 0), (.sipush 3968, 60, 0, 0, 0, 3968, 0), am_dum, am_dum, (.iload_n 2, 61, 2, 0, 0, 0, 0), (.invokevirtual 112, 64, 108, 0, 2, 0, 0), am_dum, am_dum, (.aload_n 0, 65, 0, 0, 0, 0, 0), 
  (.getfield 14, 68, 8, 1, 0, 0, 0), am_dum, am_dum, (.iload_n 2, 69, 2, 0, 0, 0, 0), (.iconst 1, 70, 0, 0, 0, 1, 0), (.iadd, 71, 0, 0, 0, 0, 0), (.iconst 0, 72, 0, 0, 0, 0, 0), (.iastore, 73, 0, 0, 0, 0, 0), 
  (.aload_n 0, 74, 0, 0, 0, 0, 0), (.getfield 88, 77, 8, 14, 0, 0, 0), am_dum, am_dum, (.iconst 2, 78, 0, 0, 0, 2, 0), (.if_icmp .ne 13, 81, 91, 0, 0, 0, 0), am_dum, am_dum, (.aload_n 0, 82, 0, 0, 0, 0, 0), 
  (.sipush 3969, 85, 0, 0, 0, 3969, 0), am_dum, am_dum, (.iload_n 2, 86, 2, 0, 0, 0, 0), (.iconst 1, 87, 0, 0, 0, 1, 0), (.iadd, 88, 0, 0, 0, 0, 0), (.invokevirtual 112, 91, 108, 0, 2, 0, 0), am_dum, am_dum, 
  (.aload_n 0, 92, 0, 0, 0, 0, 0), (.getfield 39, 95, 8, 13, 0, 0, 0), am_dum, am_dum, (.iload_n 1, 96, 1, 0, 0, 0, 0), (.dup2, 97, 0, 0, 0, 0, 0), (.iaload, 98, 0, 0, 0, 0, 0), (.iconst 1, 99, 0, 0, 0, 1, 0), 
  (.iadd, 100, 0, 0, 0, 0, 0), (.iastore, 101, 0, 0, 0, 0, 0), (.aload_n 0, 102, 0, 0, 0, 0, 0), (.getfield 39, 105, 8, 13, 0, 0, 0), am_dum, am_dum, (.iload_n 1, 106, 1, 0, 0, 0, 0), (.iaload, 107, 0, 0, 0, 0, 0), 
  (.ireturn, 108, 0, 0, 0, 0, 0)]
def k_Mo_ends : List am_e := [
  (.aload_n 0, 1, 0, 0, 0, 0, 0), (.getfield 14, 4, 8, 1, 0, 0, 0), am_dum, am_dum, (.iload_n 1, 5, 1, 0, 0, 0, 0), (.iaload, 6, 0, 0, 0, 0, 0), (.aload_n 0, 7, 0, 0, 0, 0, 0), (.getfield 14, 10, 8, 1, 0, 0, 0), am_dum, am_dum, 
  (.iload_n 2, 11, 2, 0, 0, 0, 0), (.iaload, 12, 0, 0, 0, 0, 0), (.isub, 13, 0, 0, 0, 0, 0), (.istore_n 3, 14, 3, 0, 0, 0, 0), (.iload_n 3, 15, 3, 0, 0, 0, 0), (.iconst 3, 16, 0, 0, 0, 3, 0), (.if_icmp .lt 7, 19, 23, 0, 0, 0, 0), 
  am_dum, am_dum, (.iconst 1, 20, 0, 0, 0, 1, 0), (.goto 4, 23, 24, 0, 0, 0, 0), am_dum, am_dum, (.iconst 0, 24, 0, 0, 0, 0, 0), (.istore 4, 26, 4, 0, 0, 0, 0), am_dum, (.iconst 0, 27, 0, 0, 0, 0, 0), 
  (.istore 5, 29, 5, 0, 0, 0, 0), am_dum, (.iload 5, 31, 5, 0, 0, 0, 0), am_dum, (.aload_n 0, 32, 0, 0, 0, 0, 0), (.getfield 14, 35, 8, 1, 0, 0, 0), am_dum, am_dum, (.iload_n 2, 36, 2, 0, 0, 0, 0), (.iaload, 37, 0, 0, 0, 0, 0), 
  (.if_icmp .ge 40, 40, 77, 0, 0, 0, 0), am_dum, am_dum, (.iload 4, 42, 4, 0, 0, 0, 0), am_dum, (.ifCond .eq 35, 45, 77, 0, 0, 0, 0), am_dum, am_dum, (.aload_n 0, 46, 0, 0, 0, 0, 0), (.iload_n 1, 47, 1, 0, 0, 0, 0), 
  (.iload_n 3, 48, 3, 0, 0, 0, 0), (.iload 5, 50, 5, 0, 0, 0, 0), am_dum, (.iadd, 51, 0, 0, 0, 0, 0), (.invokevirtual 76, 54, 104, 0, 2, 0, 0), am_dum, am_dum, (.aload_n 0, 55, 0, 0, 0, 0, 0), (.iload_n 2, 56, 2, 0, 0, 0, 0), 
  (.iload 5, 58, 5, 0, 0, 0, 0), am_dum, (.invokevirtual 76, 61, 104, 0, 2, 0, 0), am_dum, am_dum, (.if_icmp .ne 7, 64, 68, 0, 0, 0, 0), am_dum, am_dum, (.iconst 1, 65, 0, 0, 0, 1, 0), (.goto 4, 68, 69, 0, 0, 0, 0), am_dum, am_dum, 
  (.iconst 0, 69, 0, 0, 0, 0, 0), (.istore 4, 71, 4, 0, 0, 0, 0), am_dum, (.iinc 5 1, 74, 5, 0, 0, 1, 0), am_dum, am_dum, (.goto (-45), 77, 29, 0, 0, 0, 0), am_dum, am_dum, (.iload 4, 79, 4, 0, 0, 0, 0), am_dum, 
  (.ireturn, 80, 1, 0, 0, 0, 0)]
def k_Mo_stemTo : List am_e := [
  (.iconst 0, 1, 0, 0, 0, 0, 0), (.istore 4, 3, 4, 0, 0, 0, 0), am_dum, (.iload 4, 5, 4, 0, 0, 0, 0), am_dum, (.aload_n 0, 6, 0, 0, 0, 0, 0), (.getfield 39, 9, 8, 13, 0, 0, 0), am_dum, am_dum, (.iload_n 1, 10, 1, 0, 0, 0, 0), 
  (.iaload, 11, 0, 0, 0, 0, 0), (.if_icmp .ge 23, 14, 34, 0, 0, 0, 0), am_dum, am_dum, (.aload_n 0, 15, 0, 0, 0, 0, 0), (.iload_n 2, 16, 2, 0, 0, 0, 0), (.iload_n 1, 17, 1, 0, 0, 0, 0), (.iload 4, 19, 4, 0, 0, 0, 0), am_dum, 
  (.invokestatic 115, 22, 115, 3, 2, 0, 0), am_dum, am_dum, (.invokevirtual 118, 25, 117, 0, 2, 0, 0), am_dum, am_dum, (.ifCond .ne 9, 28, 34, 0, 0, 0, 0), am_dum, am_dum, (.iinc 4 1, 31, 4, 0, 0, 1, 0), am_dum, am_dum, 
  (.goto (-28), 34, 3, 0, 0, 0, 0), am_dum, am_dum, (.iload 4, 36, 4, 0, 0, 0, 0), am_dum, (.aload_n 0, 37, 0, 0, 0, 0, 0), (.getfield 39, 40, 8, 13, 0, 0, 0), am_dum, am_dum, (.iload_n 1, 41, 1, 0, 0, 0, 0), 
  (.iaload, 42, 0, 0, 0, 0, 0), (.if_icmp .ne 10, 45, 52, 0, 0, 0, 0), am_dum, am_dum, (.aload_n 0, 46, 0, 0, 0, 0, 0), (.iload_n 2, 47, 2, 0, 0, 0, 0), (.iload_n 3, 48, 3, 0, 0, 0, 0), (.invokevirtual 112, 51, 108, 0, 2, 0, 0), 
  am_dum, am_dum, (.return_, 52, 0, 0, 0, 0, 0), (.iload_n 1, 53, 1, 0, 0, 0, 0), (.iload 4, 55, 4, 0, 0, 0, 0), am_dum, (.invokestatic 115, 58, 115, 3, 2, 0, 0), am_dum, am_dum, (.istore 5, 60, 5, 0, 0, 0, 0), am_dum, 
  (.aload_n 0, 61, 0, 0, 0, 0, 0), (.getfield 14, 64, 8, 1, 0, 0, 0), am_dum, am_dum, (.iload_n 3, 65, 3, 0, 0, 0, 0), (.iconst 0, 66, 0, 0, 0, 0, 0), (.iastore, 67, 0, 0, 0, 0, 0), (.iconst 0, 68, 0, 0, 0, 0, 0), 
  (.istore 6, 70, 6, 0, 0, 0, 0), am_dum, (.iload 6, 72, 6, 0, 0, 0, 0), am_dum, (.aload_n 0, 73, 0, 0, 0, 0, 0), (.getfield 14, 76, 8, 1, 0, 0, 0), am_dum, am_dum, (.iload_n 2, 77, 2, 0, 0, 0, 0), (.iaload, 78, 0, 0, 0, 0, 0), 
  (.aload_n 0, 79, 0, 0, 0, 0, 0), (.getfield 14, 82, 8, 1, 0, 0, 0), am_dum, am_dum, (.iload 5, 84, 5, 0, 0, 0, 0), am_dum, (.iaload, 85, 0, 0, 0, 0, 0), (.isub, 86, 0, 0, 0, 0, 0), (.if_icmp .ge 21, 89, 107, 0, 0, 0, 0), am_dum, 
  am_dum, (.aload_n 0, 90, 0, 0, 0, 0, 0), (.iload_n 3, 91, 3, 0, 0, 0, 0), (.aload_n 0, 92, 0, 0, 0, 0, 0), (.iload_n 2, 93, 2, 0, 0, 0, 0), (.iload 6, 95, 6, 0, 0, 0, 0), am_dum, (.invokevirtual 76, 98, 104, 0, 2, 0, 0), am_dum, 
  am_dum, (.invokevirtual 80, 101, 107, 0, 2, 0, 0), am_dum, am_dum, (.iinc 6 1, 104, 6, 0, 0, 1, 0), am_dum, am_dum, (.goto (-34), 107, 70, 0, 0, 0, 0), am_dum, am_dum, (.iconst 0, 108, 0, 0, 0, 0, 0), 
  (.istore 6, 110, 6, 0, 0, 0, 0), am_dum, (.iload 6, 112, 6, 0, 0, 0, 0), am_dum, (.aload_n 0, 113, 0, 0, 0, 0, 0), (.getfield 14, 116, 8, 1, 0, 0, 0), am_dum, am_dum, (.iload 5, 118, 5, 0, 0, 0, 0), am_dum, 
  (.iconst 1, 119, 0, 0, 0, 1, 0), (.iadd, 120, 0, 0, 0, 0, 0), (.iaload, 121, 0, 0, 0, 0, 0), (.if_icmp .ge 24, 124, 145, 0, 0, 0, 0), am_dum, am_dum, (.aload_n 0, 125, 0, 0, 0, 0, 0), (.iload_n 3, 126, 3, 0, 0, 0, 0), 
  (.aload_n 0, 127, 0, 0, 0, 0, 0), (.iload 5, 129, 5, 0, 0, 0, 0), am_dum, (.iconst 1, 130, 0, 0, 0, 1, 0), (.iadd, 131, 0, 0, 0, 0, 0), (.iload 6, 133, 6, 0, 0, 0, 0), am_dum, (.invokevirtual 76, 136, 104, 0, 2, 0, 0), am_dum, 
  am_dum, (.invokevirtual 80, 139, 107, 0, 2, 0, 0), am_dum, am_dum, (.iinc 6 1, 142, 6, 0, 0, 1, 0), am_dum, am_dum, (.goto (-32), 145, 110, 0, 0, 0, 0), am_dum, am_dum, (.return_, 146, 0, 0, 0, 0, 0)]
def k_Mo_show : List am_e := [
  (.aload_n 0, 1, 0, 0, 0, 0, 0), (.aload_n 0, 2, 0, 0, 0, 0, 0), (.getfield 14, 5, 8, 1, 0, 0, 0), am_dum, am_dum, (.iload_n 1, 6, 1, 0, 0, 0, 0), (.iaload, 7, 0, 0, 0, 0, 0), (.putfield 121, 10, 8, 31, 0, 0, 0), am_dum, am_dum, 
  (.iconst 0, 11, 0, 0, 0, 0, 0), (.istore_n 2, 12, 2, 0, 0, 0, 0), (.iload_n 2, 13, 2, 0, 0, 0, 0), (.aload_n 0, 14, 0, 0, 0, 0, 0), (.getfield 121, 17, 8, 31, 0, 0, 0), am_dum, am_dum, (.if_icmp .ge 22, 20, 39, 0, 0, 0, 0), 
  am_dum, am_dum, (.aload_n 0, 21, 0, 0, 0, 0, 0), (.getfield 70, 24, 8, 30, 0, 0, 0), am_dum, am_dum, (.iload_n 2, 25, 2, 0, 0, 0, 0), (.aload_n 0, 26, 0, 0, 0, 0, 0), (.iload_n 1, 27, 1, 0, 0, 0, 0), 
  (.iload_n 2, 28, 2, 0, 0, 0, 0), (.invokevirtual 76, 31, 104, 0, 2, 0, 0), am_dum, am_dum, (.i2b, 32, 0, 0, 0, 0, 0), (.bastore, 33, 0, 0, 0, 0, 0), (.iinc 2 1, 36, 2, 0, 0, 1, 0), am_dum, am_dum, 
  (.goto (-24), 39, 12, 0, 0, 0, 0), am_dum, am_dum, (.aload_n 0, 40, 0, 0, 0, 0, 0), (.getfield 121, 43, 8, 31, 0, 0, 0), am_dum, am_dum, (.ireturn, 44, 0, 0, 0, 0, 0)]
def k_Mo_stem : List am_e := [
  (.iload_n 1, 1, 1, 0, 0, 0, 0), (.invokestatic 102, 4, 112, 3, 1, 0, 0), am_dum, am_dum, (.ifCond .ne 5, 7, 9, 0, 0, 0, 0), am_dum, am_dum, (.iconst (-1), 8, 0, 0, 0, -1, 0), (.ireturn, 9, 0, 0, 0, 0, 0), 
  (.aload_n 0, 10, 0, 0, 0, 0, 0), (.invokevirtual 106, 13, 111, 0, 0, 0, 0), am_dum, am_dum, (.aload_n 0, 14, 0, 0, 0, 0, 0), (.getfield 88, 17, 8, 14, 0, 0, 0), am_dum, am_dum, (.ifCond .ne 6, 20, 23, 0, 0, 0, 0), am_dum, am_dum, 
  (.bipush (-2), 22, 0, 0, 0, -2, 0), am_dum, (.ireturn, 23, 0, 0, 0, 0, 0), (.aload_n 0, 24, 0, 0, 0, 0, 0), (.iload_n 1, 25, 1, 0, 0, 0, 0), (.sipush 3968, 28, 0, 0, 0, 3968, 0), am_dum, am_dum, 
  (.sipush 6032, 31, 0, 0, 0, 6032, 0), am_dum, am_dum, (.invokevirtual 124, 34, 118, 0, 3, 0, 0), am_dum, am_dum, (.aload_n 0, 35, 0, 0, 0, 0, 0), (.sipush 6032, 38, 0, 0, 0, 6032, 0), am_dum, am_dum, 
  (.invokevirtual 128, 41, 119, 0, 1, 0, 0), am_dum, am_dum, (.ireturn, 42, 0, 0, 0, 0, 0)]
def k_Mo_at : List am_e := [
  (.iload_n 1, 1, 1, 0, 0, 0, 0), (.ifCond .lt 20, 4, 21, 0, 0, 0, 0), am_dum, am_dum, (.iload_n 1, 5, 1, 0, 0, 0, 0), (.aload_n 0, 6, 0, 0, 0, 0, 0), (.getfield 121, 9, 8, 31, 0, 0, 0), am_dum, am_dum, 
  (.if_icmp .ge 12, 12, 21, 0, 0, 0, 0), am_dum, am_dum, (.aload_n 0, 13, 0, 0, 0, 0, 0), (.getfield 70, 16, 8, 30, 0, 0, 0), am_dum, am_dum, (.iload_n 1, 17, 1, 0, 0, 0, 0), (.baload, 18, 0, 0, 0, 0, 0), 
  (.goto 4, 21, 22, 0, 0, 0, 0), am_dum, am_dum, (.iconst (-1), 22, 0, 0, 0, -1, 0), (.ireturn, 23, 0, 0, 0, 0, 0)]
def k_Mo_text : List am_e := [
  (.iload_n 1, 1, 1, 0, 0, 0, 0), (.invokestatic 102, 4, 112, 3, 1, 0, 0), am_dum, am_dum, (.ifCond .eq 12, 7, 16, 0, 0, 0, 0), am_dum, am_dum, (.iload_n 2, 8, 2, 0, 0, 0, 0), (.ifCond .lt 8, 11, 16, 0, 0, 0, 0), am_dum, am_dum, 
  (.iload_n 2, 12, 2, 0, 0, 0, 0), (.iconst 4, 13, 0, 0, 0, 4, 0), (.if_icmp .lt 5, 16, 18, 0, 0, 0, 0), am_dum, am_dum, (.iconst (-1), 17, 0, 0, 0, -1, 0), (.ireturn, 18, 0, 0, 0, 0, 0), (.aload_n 0, 19, 0, 0, 0, 0, 0), 
  (.invokevirtual 106, 22, 111, 0, 0, 0, 0), am_dum, am_dum, (.aload_n 0, 23, 0, 0, 0, 0, 0), (.getfield 131, 26, 8, 9, 0, 0, 0), am_dum, am_dum, (.bipush 40, 28, 0, 0, 0, 40, 0), am_dum, (.if_icmp .eq 22, 31, 50, 0, 0, 0, 0), 
  am_dum, am_dum, (.aload_n 0, 32, 0, 0, 0, 0, 0), (.aload_n 0, 33, 0, 0, 0, 0, 0), (.getfield 131, 36, 8, 9, 0, 0, 0), am_dum, am_dum, (.invokevirtual 134, 39, 123, 0, 1, 0, 0), am_dum, am_dum, (.aload_n 0, 40, 0, 0, 0, 0, 0), 
  (.getfield 88, 43, 8, 14, 0, 0, 0), am_dum, am_dum, (.iadd, 44, 0, 0, 0, 0, 0), (.sipush 400, 47, 0, 0, 0, 400, 0), am_dum, am_dum, (.if_icmp .le 6, 50, 53, 0, 0, 0, 0), am_dum, am_dum, (.bipush (-3), 52, 0, 0, 0, -3, 0), am_dum, 
  (.ireturn, 53, 0, 0, 0, 0, 0), (.aload_n 0, 54, 0, 0, 0, 0, 0), (.getfield 21, 57, 8, 4, 0, 0, 0), am_dum, am_dum, (.aload_n 0, 58, 0, 0, 0, 0, 0), (.getfield 131, 61, 8, 9, 0, 0, 0), am_dum, am_dum, 
  (.iload_n 1, 62, 1, 0, 0, 0, 0), (.iastore, 63, 0, 0, 0, 0, 0), (.aload_n 0, 64, 0, 0, 0, 0, 0), (.getfield 24, 67, 8, 5, 0, 0, 0), am_dum, am_dum, (.aload_n 0, 68, 0, 0, 0, 0, 0), (.getfield 131, 71, 8, 9, 0, 0, 0), am_dum, 
  am_dum, (.iload_n 2, 72, 2, 0, 0, 0, 0), (.iastore, 73, 0, 0, 0, 0, 0), (.aload_n 0, 74, 0, 0, 0, 0, 0), (.getfield 27, 77, 8, 6, 0, 0, 0), am_dum, am_dum, (.aload_n 0, 78, 0, 0, 0, 0, 0), (.getfield 131, 81, 8, 9, 0, 0, 0), 
  am_dum, am_dum, (.aload_n 0, 82, 0, 0, 0, 0, 0), (.getfield 88, 85, 8, 14, 0, 0, 0), am_dum, am_dum, (.iastore, 86, 0, 0, 0, 0, 0), (.iconst 0, 87, 0, 0, 0, 0, 0), (.istore_n 3, 88, 3, 0, 0, 0, 0), 
  (.iload_n 3, 89, 3, 0, 0, 0, 0), (.aload_n 0, 90, 0, 0, 0, 0, 0), (.getfield 88, 93, 8, 14, 0, 0, 0), am_dum, am_dum, (.if_icmp .ge 67, 96, 160, 0, 0, 0, 0), am_dum, am_dum, (.aload_n 0, 97, 0, 0, 0, 0, 0), 
  (.sipush 3968, 100, 0, 0, 0, 3968, 0), am_dum, am_dum, (.iload_n 3, 101, 3, 0, 0, 0, 0), (.iadd, 102, 0, 0, 0, 0, 0), (.bipush 48, 104, 0, 0, 0, 48, 0), am_dum, (.aload_n 0, 105, 0, 0, 0, 0, 0), 
  (.getfield 131, 108, 8, 9, 0, 0, 0), am_dum, am_dum, (.imul, 109, 0, 0, 0, 0, 0), (.iload_n 3, 110, 3, 0, 0, 0, 0), (.iadd, 111, 0, 0, 0, 0, 0), (.invokevirtual 112, 114, 108, 0, 2, 0, 0), am_dum, am_dum, 
  (.aload_n 0, 115, 0, 0, 0, 0, 0), (.getfield 30, 118, 8, 7, 0, 0, 0), am_dum, am_dum, (.bipush 48, 120, 0, 0, 0, 48, 0), am_dum, (.aload_n 0, 121, 0, 0, 0, 0, 0), (.getfield 131, 124, 8, 9, 0, 0, 0), am_dum, am_dum, 
  (.imul, 125, 0, 0, 0, 0, 0), (.iload_n 3, 126, 3, 0, 0, 0, 0), (.iadd, 127, 0, 0, 0, 0, 0), (.aload_n 0, 128, 0, 0, 0, 0, 0), (.getfield 42, 131, 8, 15, 0, 0, 0), am_dum, am_dum, (.iload_n 3, 132, 3, 0, 0, 0, 0), 
  (.iaload, 133, 0, 0, 0, 0, 0), (.iastore, 134, 0, 0, 0, 0, 0), (.aload_n 0, 135, 0, 0, 0, 0, 0), (.getfield 33, 138, 8, 8, 0, 0, 0), am_dum, am_dum, (.bipush 48, 140, 0, 0, 0, 48, 0), am_dum, (.aload_n 0, 141, 0, 0, 0, 0, 0), 
  (.getfield 131, 144, 8, 9, 0, 0, 0), am_dum, am_dum, (.imul, 145, 0, 0, 0, 0, 0), (.iload_n 3, 146, 3, 0, 0, 0, 0), (.iadd, 147, 0, 0, 0, 0, 0), (.aload_n 0, 148, 0, 0, 0, 0, 0), (.getfield 45, 151, 8, 16, 0, 0, 0), am_dum, 
  am_dum, (.iload_n 3, 152, 3, 0, 0, 0, 0), (.iaload, 153, 0, 0, 0, 0, 0), (.iastore, 154, 0, 0, 0, 0, 0), (.iinc 3 1, 157, 3, 0, 0, 1, 0), am_dum, am_dum, (.goto (-69), 160, 88, 0, 0, 0, 0), am_dum, am_dum, 
  (.aload_n 0, 161, 0, 0, 0, 0, 0), (.dup, 162, 0, 0, 0, 0, 0), (.getfield 131, 165, 8, 9, 0, 0, 0), am_dum, am_dum, (.iconst 1, 166, 0, 0, 0, 1, 0), (.iadd, 167, 0, 0, 0, 0, 0), (.putfield 131, 170, 8, 9, 0, 0, 0), am_dum, am_dum, 
  (.aload_n 0, 171, 0, 0, 0, 0, 0), (.getfield 131, 174, 8, 9, 0, 0, 0), am_dum, am_dum, (.iconst 1, 175, 0, 0, 0, 1, 0), (.isub, 176, 0, 0, 0, 0, 0), (.ireturn, 177, 0, 0, 0, 0, 0)]
def k_Mo_wordsOf : List am_e := [
  (.iconst 0, 1, 0, 0, 0, 0, 0), (.istore_n 2, 2, 2, 0, 0, 0, 0), (.iconst 0, 3, 0, 0, 0, 0, 0), (.istore_n 3, 4, 3, 0, 0, 0, 0), (.iload_n 3, 5, 3, 0, 0, 0, 0), (.iload_n 1, 6, 1, 0, 0, 0, 0), (.if_icmp .ge 18, 9, 24, 0, 0, 0, 0), 
  am_dum, am_dum, (.iload_n 2, 10, 2, 0, 0, 0, 0), (.aload_n 0, 11, 0, 0, 0, 0, 0), (.getfield 27, 14, 8, 6, 0, 0, 0), am_dum, am_dum, (.iload_n 3, 15, 3, 0, 0, 0, 0), (.iaload, 16, 0, 0, 0, 0, 0), (.iadd, 17, 0, 0, 0, 0, 0), 
  (.istore_n 2, 18, 2, 0, 0, 0, 0), (.iinc 3 1, 21, 3, 0, 0, 1, 0), am_dum, am_dum, (.goto (-17), 24, 4, 0, 0, 0, 0), am_dum, am_dum, (.iload_n 2, 25, 2, 0, 0, 0, 0), (.ireturn, 26, 0, 0, 0, 0, 0)]
def k_Mo_isText : List am_e := [
  (.iload_n 1, 1, 1, 0, 0, 0, 0), (.ifCond .lt 24, 4, 25, 0, 0, 0, 0), am_dum, am_dum, (.iload_n 1, 5, 1, 0, 0, 0, 0), (.aload_n 0, 6, 0, 0, 0, 0, 0), (.getfield 131, 9, 8, 9, 0, 0, 0), am_dum, am_dum, 
  (.if_icmp .ge 16, 12, 25, 0, 0, 0, 0), am_dum, am_dum, (.aload_n 0, 13, 0, 0, 0, 0, 0), (.getfield 21, 16, 8, 4, 0, 0, 0), am_dum, am_dum, (.iload_n 1, 17, 1, 0, 0, 0, 0), (.iaload, 18, 0, 0, 0, 0, 0), 
  (.ifCond .lt 7, 21, 25, 0, 0, 0, 0), am_dum, am_dum, (.iconst 1, 22, 0, 0, 0, 1, 0), (.goto 4, 25, 26, 0, 0, 0, 0), am_dum, am_dum, (.iconst 0, 26, 0, 0, 0, 0, 0), (.ireturn, 27, 1, 0, 0, 0, 0)]
def k_Mo_remove : List am_e := [
  (.aload_n 0, 1, 0, 0, 0, 0, 0), (.iload_n 1, 2, 1, 0, 0, 0, 0), (.invokevirtual 137, 5, 124, 0, 1, 0, 0), am_dum, am_dum, (.ifCond .ne 5, 8, 10, 0, 0, 0, 0), am_dum, am_dum, (.iconst (-1), 9, 0, 0, 0, -1, 0), 
  (.ireturn, 10, 0, 0, 0, 0, 0), (.aload_n 0, 11, 0, 0, 0, 0, 0), (.getfield 21, 14, 8, 4, 0, 0, 0), am_dum, am_dum, (.iload_n 1, 15, 1, 0, 0, 0, 0), (.iconst (-1), 16, 0, 0, 0, -1, 0), (.iastore, 17, 0, 0, 0, 0, 0), 
  (.aload_n 0, 18, 0, 0, 0, 0, 0), (.dup, 19, 0, 0, 0, 0, 0), (.getfield 140, 22, 8, 10, 0, 0, 0), am_dum, am_dum, (.iconst 1, 23, 0, 0, 0, 1, 0), (.iadd, 24, 0, 0, 0, 0, 0), (.putfield 140, 27, 8, 10, 0, 0, 0), am_dum, am_dum, 
  (.iconst 1, 28, 0, 0, 0, 1, 0), (.ireturn, 29, 0, 0, 0, 0, 0)]
def k_Mo_texts : List am_e := [
  (.aload_n 0, 1, 0, 0, 0, 0, 0), (.getfield 131, 4, 8, 9, 0, 0, 0), am_dum, am_dum, (.aload_n 0, 5, 0, 0, 0, 0, 0), (.getfield 140, 8, 8, 10, 0, 0, 0), am_dum, am_dum, (.isub, 9, 0, 0, 0, 0, 0), (.ireturn, 10, 0, 0, 0, 0, 0)]
def k_Mo_place : List am_e := [
  (.aload_n 0, 1, 0, 0, 0, 0, 0), (.iload_n 1, 2, 1, 0, 0, 0, 0), (.invokevirtual 137, 5, 124, 0, 1, 0, 0), am_dum, am_dum, (.ifCond .eq 26, 8, 31, 0, 0, 0, 0), am_dum, am_dum, (.iload_n 2, 9, 2, 0, 0, 0, 0), 
  (.ifCond .lt 22, 12, 31, 0, 0, 0, 0), am_dum, am_dum, (.iload_n 2, 13, 2, 0, 0, 0, 0), (.aload_n 0, 14, 0, 0, 0, 0, 0), (.getfield 27, 17, 8, 6, 0, 0, 0), am_dum, am_dum, (.iload_n 1, 18, 1, 0, 0, 0, 0), 
  (.iaload, 19, 0, 0, 0, 0, 0), (.if_icmp .ge 12, 22, 31, 0, 0, 0, 0), am_dum, am_dum, (.iload_n 3, 23, 3, 0, 0, 0, 0), (.ifCond .lt 8, 26, 31, 0, 0, 0, 0), am_dum, am_dum, (.iload_n 3, 27, 3, 0, 0, 0, 0), 
  (.iconst 1, 28, 0, 0, 0, 1, 0), (.if_icmp .le 5, 31, 33, 0, 0, 0, 0), am_dum, am_dum, (.iconst (-1), 32, 0, 0, 0, -1, 0), (.ireturn, 33, 0, 0, 0, 0, 0), (.iload_n 3, 34, 3, 0, 0, 0, 0), (.ifCond .ne 17, 37, 51, 0, 0, 0, 0), 
  am_dum, am_dum, (.aload_n 0, 38, 0, 0, 0, 0, 0), (.getfield 30, 41, 8, 7, 0, 0, 0), am_dum, am_dum, (.bipush 48, 43, 0, 0, 0, 48, 0), am_dum, (.iload_n 1, 44, 1, 0, 0, 0, 0), (.imul, 45, 0, 0, 0, 0, 0), 
  (.iload_n 2, 46, 2, 0, 0, 0, 0), (.iadd, 47, 0, 0, 0, 0, 0), (.iaload, 48, 0, 0, 0, 0, 0), (.goto 14, 51, 62, 0, 0, 0, 0), am_dum, am_dum, (.aload_n 0, 52, 0, 0, 0, 0, 0), (.getfield 33, 55, 8, 8, 0, 0, 0), am_dum, am_dum, 
  (.bipush 48, 57, 0, 0, 0, 48, 0), am_dum, (.iload_n 1, 58, 1, 0, 0, 0, 0), (.imul, 59, 0, 0, 0, 0, 0), (.iload_n 2, 60, 2, 0, 0, 0, 0), (.iadd, 61, 0, 0, 0, 0, 0), (.iaload, 62, 0, 0, 0, 0, 0), (.ireturn, 63, 0, 0, 0, 0, 0)]
def k_Mo_hasAt : List am_e := [
  (.bipush 48, 2, 0, 0, 0, 48, 0), am_dum, (.iload_n 1, 3, 1, 0, 0, 0, 0), (.imul, 4, 0, 0, 0, 0, 0), (.iload_n 2, 5, 2, 0, 0, 0, 0), (.iadd, 6, 0, 0, 0, 0, 0), (.istore 5, 8, 5, 0, 0, 0, 0), am_dum, (.aload_n 0, 9, 0, 0, 0, 0, 0), 
  (.aload_n 0, 10, 0, 0, 0, 0, 0), (.getfield 21, 13, 8, 4, 0, 0, 0), am_dum, am_dum, (.iload_n 1, 14, 1, 0, 0, 0, 0), (.iaload, 15, 0, 0, 0, 0, 0), (.iload 5, 17, 5, 0, 0, 0, 0), am_dum, (.invokevirtual 109, 20, 113, 0, 2, 0, 0), 
  am_dum, am_dum, (.ifCond .eq 5, 23, 25, 0, 0, 0, 0), am_dum, am_dum, (.iconst 0, 24, 0, 0, 0, 0, 0), (.ireturn, 25, 1, 0, 0, 0, 0), (.aload_n 0, 26, 0, 0, 0, 0, 0), (.aload_n 0, 27, 0, 0, 0, 0, 0), 
  (.getfield 21, 30, 8, 4, 0, 0, 0), am_dum, am_dum, (.iload_n 1, 31, 1, 0, 0, 0, 0), (.iaload, 32, 0, 0, 0, 0, 0), (.iload 5, 34, 5, 0, 0, 0, 0), am_dum, (.sipush 6032, 37, 0, 0, 0, 6032, 0), am_dum, am_dum, 
  (.invokevirtual 124, 40, 118, 0, 3, 0, 0), am_dum, am_dum, (.iload 4, 42, 4, 0, 0, 0, 0), am_dum, (.ifCond .eq 14, 45, 56, 0, 0, 0, 0), am_dum, am_dum, (.aload_n 0, 46, 0, 0, 0, 0, 0), (.sipush 6032, 49, 0, 0, 0, 6032, 0), 
  am_dum, am_dum, (.iload_n 3, 50, 3, 0, 0, 0, 0), (.invokevirtual 143, 53, 106, 0, 2, 0, 0), am_dum, am_dum, (.goto 11, 56, 64, 0, 0, 0, 0), am_dum, am_dum, (.aload_n 0, 57, 0, 0, 0, 0, 0), (.sipush 6032, 60, 0, 0, 0, 6032, 0), 
  am_dum, am_dum, (.iload_n 3, 61, 3, 0, 0, 0, 0), (.invokevirtual 98, 64, 105, 0, 2, 0, 0), am_dum, am_dum, (.ireturn, 65, 1, 0, 0, 0, 0)]
def k_Mo_times : List am_e := [
  (.iconst 0, 1, 0, 0, 0, 0, 0), (.istore 4, 3, 4, 0, 0, 0, 0), am_dum, (.iconst 0, 4, 0, 0, 0, 0, 0), (.istore 5, 6, 5, 0, 0, 0, 0), am_dum, (.iload 5, 8, 5, 0, 0, 0, 0), am_dum, (.aload_n 0, 9, 0, 0, 0, 0, 0), 
  (.getfield 27, 12, 8, 6, 0, 0, 0), am_dum, am_dum, (.iload_n 1, 13, 1, 0, 0, 0, 0), (.iaload, 14, 0, 0, 0, 0, 0), (.if_icmp .ge 31, 17, 45, 0, 0, 0, 0), am_dum, am_dum, (.iload 4, 19, 4, 0, 0, 0, 0), am_dum, 
  (.aload_n 0, 20, 0, 0, 0, 0, 0), (.iload_n 1, 21, 1, 0, 0, 0, 0), (.iload 5, 23, 5, 0, 0, 0, 0), am_dum, (.iload_n 2, 24, 2, 0, 0, 0, 0), (.iload_n 3, 25, 3, 0, 0, 0, 0), (.invokevirtual 146, 28, 128, 0, 4, 0, 0), am_dum, am_dum, 
  (.ifCond .eq 7, 31, 35, 0, 0, 0, 0), am_dum, am_dum, (.iconst 1, 32, 0, 0, 0, 1, 0), (.goto 4, 35, 36, 0, 0, 0, 0), am_dum, am_dum, (.iconst 0, 36, 0, 0, 0, 0, 0), (.iadd, 37, 0, 0, 0, 0, 0), (.istore 4, 39, 4, 0, 0, 0, 0), 
  am_dum, (.iinc 5 1, 42, 5, 0, 0, 1, 0), am_dum, am_dum, (.goto (-36), 45, 6, 0, 0, 0, 0), am_dum, am_dum, (.iload 4, 47, 4, 0, 0, 0, 0), am_dum, (.ireturn, 48, 0, 0, 0, 0, 0)]
def k_Mo_stems : List am_e := [
  (.iload_n 1, 1, 1, 0, 0, 0, 0), (.invokestatic 102, 4, 112, 3, 1, 0, 0), am_dum, am_dum, (.ifCond .ne 5, 7, 9, 0, 0, 0, 0), am_dum, am_dum, (.iconst (-1), 8, 0, 0, 0, -1, 0), (.ireturn, 9, 0, 0, 0, 0, 0), 
  (.iconst 0, 10, 0, 0, 0, 0, 0), (.istore_n 2, 11, 2, 0, 0, 0, 0), (.iconst 0, 12, 0, 0, 0, 0, 0), (.istore_n 3, 13, 3, 0, 0, 0, 0), (.iload_n 3, 14, 3, 0, 0, 0, 0), (.aload_n 0, 15, 0, 0, 0, 0, 0), 
  (.getfield 131, 18, 8, 9, 0, 0, 0), am_dum, am_dum, (.if_icmp .ge 94, 21, 112, 0, 0, 0, 0), am_dum, am_dum, (.aload_n 0, 22, 0, 0, 0, 0, 0), (.getfield 21, 25, 8, 4, 0, 0, 0), am_dum, am_dum, (.iload_n 3, 26, 3, 0, 0, 0, 0), 
  (.iaload, 27, 0, 0, 0, 0, 0), (.iload_n 1, 28, 1, 0, 0, 0, 0), (.if_icmp .eq 6, 31, 34, 0, 0, 0, 0), am_dum, am_dum, (.goto 75, 34, 106, 0, 0, 0, 0), am_dum, am_dum, (.iconst 0, 35, 0, 0, 0, 0, 0), (.istore 4, 37, 4, 0, 0, 0, 0), 
  am_dum, (.iload 4, 39, 4, 0, 0, 0, 0), am_dum, (.aload_n 0, 40, 0, 0, 0, 0, 0), (.getfield 27, 43, 8, 6, 0, 0, 0), am_dum, am_dum, (.iload_n 3, 44, 3, 0, 0, 0, 0), (.iaload, 45, 0, 0, 0, 0, 0), 
  (.if_icmp .ge 61, 48, 106, 0, 0, 0, 0), am_dum, am_dum, (.aload_n 0, 49, 0, 0, 0, 0, 0), (.iload_n 1, 50, 1, 0, 0, 0, 0), (.bipush 48, 52, 0, 0, 0, 48, 0), am_dum, (.iload_n 3, 53, 3, 0, 0, 0, 0), (.imul, 54, 0, 0, 0, 0, 0), 
  (.iload 4, 56, 4, 0, 0, 0, 0), am_dum, (.iadd, 57, 0, 0, 0, 0, 0), (.invokevirtual 109, 60, 113, 0, 2, 0, 0), am_dum, am_dum, (.ifCond .eq 6, 63, 66, 0, 0, 0, 0), am_dum, am_dum, (.goto 37, 66, 100, 0, 0, 0, 0), am_dum, am_dum, 
  (.aload_n 0, 67, 0, 0, 0, 0, 0), (.iload_n 1, 68, 1, 0, 0, 0, 0), (.bipush 48, 70, 0, 0, 0, 48, 0), am_dum, (.iload_n 3, 71, 3, 0, 0, 0, 0), (.imul, 72, 0, 0, 0, 0, 0), (.iload 4, 74, 4, 0, 0, 0, 0), am_dum, 
  (.iadd, 75, 0, 0, 0, 0, 0), (.sipush 6033, 78, 0, 0, 0, 6033, 0), am_dum, am_dum, (.invokevirtual 124, 81, 118, 0, 3, 0, 0), am_dum, am_dum, (.iload_n 2, 82, 2, 0, 0, 0, 0), (.aload_n 0, 83, 0, 0, 0, 0, 0), 
  (.iload_n 1, 84, 1, 0, 0, 0, 0), (.iload_n 3, 85, 3, 0, 0, 0, 0), (.iload 4, 87, 4, 0, 0, 0, 0), am_dum, (.invokevirtual 150, 90, 131, 0, 3, 0, 0), am_dum, am_dum, (.ifCond .eq 7, 93, 97, 0, 0, 0, 0), am_dum, am_dum, 
  (.iconst 1, 94, 0, 0, 0, 1, 0), (.goto 4, 97, 98, 0, 0, 0, 0), am_dum, am_dum, (.iconst 0, 98, 0, 0, 0, 0, 0), (.iadd, 99, 0, 0, 0, 0, 0), (.istore_n 2, 100, 2, 0, 0, 0, 0), (.iinc 4 1, 103, 4, 0, 0, 1, 0), am_dum, am_dum, 
  (.goto (-66), 106, 37, 0, 0, 0, 0), am_dum, am_dum, (.iinc 3 1, 109, 3, 0, 0, 1, 0), am_dum, am_dum, (.goto (-96), 112, 13, 0, 0, 0, 0), am_dum, am_dum, (.iload_n 2, 113, 2, 0, 0, 0, 0), (.ireturn, 114, 0, 0, 0, 0, 0)]
def k_Mo_isFirst : List am_e := [
  (.iconst 0, 1, 0, 0, 0, 0, 0), (.istore 4, 3, 4, 0, 0, 0, 0), am_dum, (.iload 4, 5, 4, 0, 0, 0, 0), am_dum, (.iload_n 2, 6, 2, 0, 0, 0, 0), (.if_icmp .gt 71, 9, 77, 0, 0, 0, 0), am_dum, am_dum, (.aload_n 0, 10, 0, 0, 0, 0, 0), 
  (.getfield 21, 13, 8, 4, 0, 0, 0), am_dum, am_dum, (.iload 4, 15, 4, 0, 0, 0, 0), am_dum, (.iaload, 16, 0, 0, 0, 0, 0), (.iload_n 1, 17, 1, 0, 0, 0, 0), (.if_icmp .eq 6, 20, 23, 0, 0, 0, 0), am_dum, am_dum, 
  (.goto 51, 23, 71, 0, 0, 0, 0), am_dum, am_dum, (.iconst 0, 24, 0, 0, 0, 0, 0), (.istore 5, 26, 5, 0, 0, 0, 0), am_dum, (.iload 5, 28, 5, 0, 0, 0, 0), am_dum, (.iload 4, 30, 4, 0, 0, 0, 0), am_dum, 
  (.iload_n 2, 31, 2, 0, 0, 0, 0), (.if_icmp .ge 13, 34, 44, 0, 0, 0, 0), am_dum, am_dum, (.aload_n 0, 35, 0, 0, 0, 0, 0), (.getfield 27, 38, 8, 6, 0, 0, 0), am_dum, am_dum, (.iload 4, 40, 4, 0, 0, 0, 0), am_dum, 
  (.iaload, 41, 0, 0, 0, 0, 0), (.goto 4, 44, 45, 0, 0, 0, 0), am_dum, am_dum, (.iload_n 3, 45, 3, 0, 0, 0, 0), (.if_icmp .ge 26, 48, 71, 0, 0, 0, 0), am_dum, am_dum, (.aload_n 0, 49, 0, 0, 0, 0, 0), (.iload 4, 51, 4, 0, 0, 0, 0), 
  am_dum, (.iload 5, 53, 5, 0, 0, 0, 0), am_dum, (.sipush 6033, 56, 0, 0, 0, 6033, 0), am_dum, am_dum, (.iconst 0, 57, 0, 0, 0, 0, 0), (.invokevirtual 146, 60, 128, 0, 4, 0, 0), am_dum, am_dum, (.ifCond .eq 5, 63, 65, 0, 0, 0, 0), 
  am_dum, am_dum, (.iconst 0, 64, 0, 0, 0, 0, 0), (.ireturn, 65, 1, 0, 0, 0, 0), (.iinc 5 1, 68, 5, 0, 0, 1, 0), am_dum, am_dum, (.goto (-42), 71, 26, 0, 0, 0, 0), am_dum, am_dum, (.iinc 4 1, 74, 4, 0, 0, 1, 0), am_dum, am_dum, 
  (.goto (-71), 77, 3, 0, 0, 0, 0), am_dum, am_dum, (.iconst 1, 78, 0, 0, 0, 1, 0), (.ireturn, 79, 1, 0, 0, 0, 0)]
def k_Mo_here : List am_e := [
  (.aload_n 0, 1, 0, 0, 0, 0, 0), (.getfield 154, 4, 8, 23, 0, 0, 0), am_dum, am_dum, (.aload_n 0, 5, 0, 0, 0, 0, 0), (.getfield 84, 8, 8, 3, 0, 0, 0), am_dum, am_dum, (.if_icmp .ge 15, 11, 23, 0, 0, 0, 0), am_dum, am_dum, 
  (.aload_n 0, 12, 0, 0, 0, 0, 0), (.getfield 18, 15, 8, 2, 0, 0, 0), am_dum, am_dum, (.aload_n 0, 16, 0, 0, 0, 0, 0), (.getfield 154, 19, 8, 23, 0, 0, 0), am_dum, am_dum, (.baload, 20, 0, 0, 0, 0, 0), 
  (.goto 4, 23, 24, 0, 0, 0, 0), am_dum, am_dum, (.iconst (-1), 24, 0, 0, 0, -1, 0), (.ireturn, 25, 0, 0, 0, 0, 0)]
def k_Mo_need : List am_e := [
  (.aload_n 0, 1, 0, 0, 0, 0, 0), (.getfield 157, 4, 8, 24, 0, 0, 0), am_dum, am_dum, (.ifCond .ge 15, 7, 19, 0, 0, 0, 0), am_dum, am_dum, (.iload_n 1, 8, 1, 0, 0, 0, 0), (.ifCond .ne 11, 11, 19, 0, 0, 0, 0), am_dum, am_dum, 
  (.aload_n 0, 12, 0, 0, 0, 0, 0), (.aload_n 0, 13, 0, 0, 0, 0, 0), (.getfield 154, 16, 8, 23, 0, 0, 0), am_dum, am_dum, (.putfield 157, 19, 8, 24, 0, 0, 0), am_dum, am_dum, (.return_, 20, 0, 0, 0, 0, 0)]
def k_Mo_skip : List am_e := [
  (.aload_n 0, 1, 0, 0, 0, 0, 0), (.invokevirtual 160, 4, 132, 0, 0, 0, 0), am_dum, am_dum, (.bipush 32, 6, 0, 0, 0, 32, 0), am_dum, (.if_icmp .ne 16, 9, 22, 0, 0, 0, 0), am_dum, am_dum, (.aload_n 0, 10, 0, 0, 0, 0, 0), 
  (.dup, 11, 0, 0, 0, 0, 0), (.getfield 154, 14, 8, 23, 0, 0, 0), am_dum, am_dum, (.iconst 1, 15, 0, 0, 0, 1, 0), (.iadd, 16, 0, 0, 0, 0, 0), (.putfield 154, 19, 8, 23, 0, 0, 0), am_dum, am_dum, (.goto (-19), 22, 0, 0, 0, 0, 0), 
  am_dum, am_dum, (.return_, 23, 0, 0, 0, 0, 0)]
def k_Mo_isLetter : List am_e := [
  (.aload_n 0, 1, 0, 0, 0, 0, 0), (.getfield 154, 4, 8, 23, 0, 0, 0), am_dum, am_dum, (.aload_n 0, 5, 0, 0, 0, 0, 0), (.getfield 84, 8, 8, 3, 0, 0, 0), am_dum, am_dum, (.if_icmp .ge 22, 11, 30, 0, 0, 0, 0), am_dum, am_dum, 
  (.aload_n 0, 12, 0, 0, 0, 0, 0), (.getfield 18, 15, 8, 2, 0, 0, 0), am_dum, am_dum, (.aload_n 0, 16, 0, 0, 0, 0, 0), (.getfield 154, 19, 8, 23, 0, 0, 0), am_dum, am_dum, (.baload, 20, 0, 0, 0, 0, 0), 
  (.invokestatic 91, 23, 109, 3, 1, 0, 0), am_dum, am_dum, (.ifCond .eq 7, 26, 30, 0, 0, 0, 0), am_dum, am_dum, (.iconst 1, 27, 0, 0, 0, 1, 0), (.goto 4, 30, 31, 0, 0, 0, 0), am_dum, am_dum, (.iconst 0, 31, 0, 0, 0, 0, 0), 
  (.ireturn, 32, 1, 0, 0, 0, 0)]
def k_Mo_isPart : List am_e := [
  (.aload_n 0, 1, 0, 0, 0, 0, 0), (.invokevirtual 160, 4, 132, 0, 0, 0, 0), am_dum, am_dum, (.bipush 45, 6, 0, 0, 0, 45, 0), am_dum, (.if_icmp .eq 19, 9, 25, 0, 0, 0, 0), am_dum, am_dum, (.aload_n 0, 10, 0, 0, 0, 0, 0), 
  (.invokevirtual 160, 13, 132, 0, 0, 0, 0), am_dum, am_dum, (.bipush 34, 15, 0, 0, 0, 34, 0), am_dum, (.if_icmp .eq 10, 18, 25, 0, 0, 0, 0), am_dum, am_dum, (.aload_n 0, 19, 0, 0, 0, 0, 0), 
  (.invokevirtual 164, 22, 135, 0, 0, 0, 0), am_dum, am_dum, (.ifCond .eq 7, 25, 29, 0, 0, 0, 0), am_dum, am_dum, (.iconst 1, 26, 0, 0, 0, 1, 0), (.goto 4, 29, 30, 0, 0, 0, 0), am_dum, am_dum, (.iconst 0, 30, 0, 0, 0, 0, 0), 
  (.ireturn, 31, 1, 0, 0, 0, 0)]
def k_Mo_readWord : List am_e := [
  (.aload_n 0, 1, 0, 0, 0, 0, 0), (.aload_n 0, 2, 0, 0, 0, 0, 0), (.invokevirtual 164, 5, 135, 0, 0, 0, 0), am_dum, am_dum, (.invokevirtual 168, 8, 133, 0, 1, 0, 0), am_dum, am_dum, (.aload_n 0, 9, 0, 0, 0, 0, 0), 
  (.getfield 14, 12, 8, 1, 0, 0, 0), am_dum, am_dum, (.sipush 4016, 15, 0, 0, 0, 4016, 0), am_dum, am_dum, (.aload_n 0, 16, 0, 0, 0, 0, 0), (.getfield 172, 19, 8, 22, 0, 0, 0), am_dum, am_dum, (.iadd, 20, 0, 0, 0, 0, 0), 
  (.iconst 0, 21, 0, 0, 0, 0, 0), (.iastore, 22, 0, 0, 0, 0, 0), (.aload_n 0, 23, 0, 0, 0, 0, 0), (.getfield 157, 26, 8, 24, 0, 0, 0), am_dum, am_dum, (.ifCond .ge 74, 29, 100, 0, 0, 0, 0), am_dum, am_dum, 
  (.aload_n 0, 30, 0, 0, 0, 0, 0), (.invokevirtual 164, 33, 135, 0, 0, 0, 0), am_dum, am_dum, (.ifCond .eq 67, 36, 100, 0, 0, 0, 0), am_dum, am_dum, (.aload_n 0, 37, 0, 0, 0, 0, 0), (.aload_n 0, 38, 0, 0, 0, 0, 0), 
  (.getfield 14, 41, 8, 1, 0, 0, 0), am_dum, am_dum, (.sipush 4016, 44, 0, 0, 0, 4016, 0), am_dum, am_dum, (.aload_n 0, 45, 0, 0, 0, 0, 0), (.getfield 172, 48, 8, 22, 0, 0, 0), am_dum, am_dum, (.iadd, 49, 0, 0, 0, 0, 0), 
  (.iaload, 50, 0, 0, 0, 0, 0), (.bipush 12, 52, 0, 0, 0, 12, 0), am_dum, (.if_icmp .ge 7, 55, 59, 0, 0, 0, 0), am_dum, am_dum, (.iconst 1, 56, 0, 0, 0, 1, 0), (.goto 4, 59, 60, 0, 0, 0, 0), am_dum, am_dum, 
  (.iconst 0, 60, 0, 0, 0, 0, 0), (.invokevirtual 168, 63, 133, 0, 1, 0, 0), am_dum, am_dum, (.aload_n 0, 64, 0, 0, 0, 0, 0), (.sipush 4016, 67, 0, 0, 0, 4016, 0), am_dum, am_dum, (.aload_n 0, 68, 0, 0, 0, 0, 0), 
  (.getfield 172, 71, 8, 22, 0, 0, 0), am_dum, am_dum, (.iadd, 72, 0, 0, 0, 0, 0), (.aload_n 0, 73, 0, 0, 0, 0, 0), (.getfield 18, 76, 8, 2, 0, 0, 0), am_dum, am_dum, (.aload_n 0, 77, 0, 0, 0, 0, 0), 
  (.getfield 154, 80, 8, 23, 0, 0, 0), am_dum, am_dum, (.baload, 81, 0, 0, 0, 0, 0), (.invokestatic 91, 84, 109, 3, 1, 0, 0), am_dum, am_dum, (.invokevirtual 80, 87, 107, 0, 2, 0, 0), am_dum, am_dum, 
  (.aload_n 0, 88, 0, 0, 0, 0, 0), (.dup, 89, 0, 0, 0, 0, 0), (.getfield 154, 92, 8, 23, 0, 0, 0), am_dum, am_dum, (.iconst 1, 93, 0, 0, 0, 1, 0), (.iadd, 94, 0, 0, 0, 0, 0), (.putfield 154, 97, 8, 23, 0, 0, 0), am_dum, am_dum, 
  (.goto (-75), 100, 22, 0, 0, 0, 0), am_dum, am_dum, (.aload_n 0, 101, 0, 0, 0, 0, 0), (.dup, 102, 0, 0, 0, 0, 0), (.getfield 172, 105, 8, 22, 0, 0, 0), am_dum, am_dum, (.aload_n 0, 106, 0, 0, 0, 0, 0), 
  (.getfield 172, 109, 8, 22, 0, 0, 0), am_dum, am_dum, (.bipush 47, 111, 0, 0, 0, 47, 0), am_dum, (.if_icmp .ge 7, 114, 118, 0, 0, 0, 0), am_dum, am_dum, (.iconst 1, 115, 0, 0, 0, 1, 0), (.goto 4, 118, 119, 0, 0, 0, 0), am_dum, 
  am_dum, (.iconst 0, 119, 0, 0, 0, 0, 0), (.iadd, 120, 0, 0, 0, 0, 0), (.putfield 172, 123, 8, 22, 0, 0, 0), am_dum, am_dum, (.aload_n 0, 124, 0, 0, 0, 0, 0), (.getfield 57, 127, 8, 20, 0, 0, 0), am_dum, am_dum, 
  (.aload_n 0, 128, 0, 0, 0, 0, 0), (.getfield 175, 131, 8, 21, 0, 0, 0), am_dum, am_dum, (.dup2, 132, 0, 0, 0, 0, 0), (.iaload, 133, 0, 0, 0, 0, 0), (.iconst 1, 134, 0, 0, 0, 1, 0), (.iadd, 135, 0, 0, 0, 0, 0), 
  (.iastore, 136, 0, 0, 0, 0, 0), (.return_, 137, 0, 0, 0, 0, 0)]
def k_Mo_readPart : List am_e := [
  (.aload_n 0, 1, 0, 0, 0, 0, 0), (.getfield 48, 4, 8, 17, 0, 0, 0), am_dum, am_dum, (.aload_n 0, 5, 0, 0, 0, 0, 0), (.getfield 175, 8, 8, 21, 0, 0, 0), am_dum, am_dum, (.iload_n 1, 9, 1, 0, 0, 0, 0), (.iastore, 10, 0, 0, 0, 0, 0), 
  (.aload_n 0, 11, 0, 0, 0, 0, 0), (.getfield 51, 14, 8, 18, 0, 0, 0), am_dum, am_dum, (.aload_n 0, 15, 0, 0, 0, 0, 0), (.getfield 175, 18, 8, 21, 0, 0, 0), am_dum, am_dum, (.iconst 0, 19, 0, 0, 0, 0, 0), 
  (.iastore, 20, 0, 0, 0, 0, 0), (.aload_n 0, 21, 0, 0, 0, 0, 0), (.getfield 54, 24, 8, 19, 0, 0, 0), am_dum, am_dum, (.aload_n 0, 25, 0, 0, 0, 0, 0), (.getfield 175, 28, 8, 21, 0, 0, 0), am_dum, am_dum, 
  (.sipush 4016, 31, 0, 0, 0, 4016, 0), am_dum, am_dum, (.aload_n 0, 32, 0, 0, 0, 0, 0), (.getfield 172, 35, 8, 22, 0, 0, 0), am_dum, am_dum, (.iadd, 36, 0, 0, 0, 0, 0), (.iastore, 37, 0, 0, 0, 0, 0), 
  (.aload_n 0, 38, 0, 0, 0, 0, 0), (.getfield 57, 41, 8, 20, 0, 0, 0), am_dum, am_dum, (.aload_n 0, 42, 0, 0, 0, 0, 0), (.getfield 175, 45, 8, 21, 0, 0, 0), am_dum, am_dum, (.iconst 0, 46, 0, 0, 0, 0, 0), 
  (.iastore, 47, 0, 0, 0, 0, 0), (.aload_n 0, 48, 0, 0, 0, 0, 0), (.invokevirtual 160, 51, 132, 0, 0, 0, 0), am_dum, am_dum, (.bipush 45, 53, 0, 0, 0, 45, 0), am_dum, (.if_icmp .ne 23, 56, 76, 0, 0, 0, 0), am_dum, am_dum, 
  (.aload_n 0, 57, 0, 0, 0, 0, 0), (.dup, 58, 0, 0, 0, 0, 0), (.getfield 154, 61, 8, 23, 0, 0, 0), am_dum, am_dum, (.iconst 1, 62, 0, 0, 0, 1, 0), (.iadd, 63, 0, 0, 0, 0, 0), (.putfield 154, 66, 8, 23, 0, 0, 0), am_dum, am_dum, 
  (.aload_n 0, 67, 0, 0, 0, 0, 0), (.getfield 51, 70, 8, 18, 0, 0, 0), am_dum, am_dum, (.aload_n 0, 71, 0, 0, 0, 0, 0), (.getfield 175, 74, 8, 21, 0, 0, 0), am_dum, am_dum, (.iconst 1, 75, 0, 0, 0, 1, 0), 
  (.iastore, 76, 0, 0, 0, 0, 0), (.aload_n 0, 77, 0, 0, 0, 0, 0), (.invokevirtual 160, 80, 132, 0, 0, 0, 0), am_dum, am_dum, (.bipush 34, 82, 0, 0, 0, 34, 0), am_dum, (.if_icmp .ne 92, 85, 174, 0, 0, 0, 0), am_dum, am_dum, 
  (.aload_n 0, 86, 0, 0, 0, 0, 0), (.dup, 87, 0, 0, 0, 0, 0), (.getfield 154, 90, 8, 23, 0, 0, 0), am_dum, am_dum, (.iconst 1, 91, 0, 0, 0, 1, 0), (.iadd, 92, 0, 0, 0, 0, 0), (.putfield 154, 95, 8, 23, 0, 0, 0), am_dum, am_dum, 
  (.aload_n 0, 96, 0, 0, 0, 0, 0), (.getfield 51, 99, 8, 18, 0, 0, 0), am_dum, am_dum, (.aload_n 0, 100, 0, 0, 0, 0, 0), (.getfield 175, 103, 8, 21, 0, 0, 0), am_dum, am_dum, (.dup2, 104, 0, 0, 0, 0, 0), 
  (.iaload, 105, 0, 0, 0, 0, 0), (.iconst 4, 106, 0, 0, 0, 4, 0), (.iadd, 107, 0, 0, 0, 0, 0), (.iastore, 108, 0, 0, 0, 0, 0), (.aload_n 0, 109, 0, 0, 0, 0, 0), (.invokevirtual 178, 112, 134, 0, 0, 0, 0), am_dum, am_dum, 
  (.iconst 1, 113, 0, 0, 0, 1, 0), (.istore_n 2, 114, 2, 0, 0, 0, 0), (.iload_n 2, 115, 2, 0, 0, 0, 0), (.ifCond .eq 46, 118, 161, 0, 0, 0, 0), am_dum, am_dum, (.aload_n 0, 119, 0, 0, 0, 0, 0), (.getfield 157, 122, 8, 24, 0, 0, 0), 
  am_dum, am_dum, (.ifCond .ge 39, 125, 161, 0, 0, 0, 0), am_dum, am_dum, (.aload_n 0, 126, 0, 0, 0, 0, 0), (.invokevirtual 181, 129, 137, 0, 0, 0, 0), am_dum, am_dum, (.aload_n 0, 130, 0, 0, 0, 0, 0), 
  (.getfield 157, 133, 8, 24, 0, 0, 0), am_dum, am_dum, (.ifCond .lt 6, 136, 139, 0, 0, 0, 0), am_dum, am_dum, (.goto (-22), 139, 114, 0, 0, 0, 0), am_dum, am_dum, (.aload_n 0, 140, 0, 0, 0, 0, 0), 
  (.invokevirtual 178, 143, 134, 0, 0, 0, 0), am_dum, am_dum, (.aload_n 0, 144, 0, 0, 0, 0, 0), (.invokevirtual 160, 147, 132, 0, 0, 0, 0), am_dum, am_dum, (.bipush 34, 149, 0, 0, 0, 34, 0), am_dum, 
  (.if_icmp .eq 7, 152, 156, 0, 0, 0, 0), am_dum, am_dum, (.iconst 1, 153, 0, 0, 0, 1, 0), (.goto 4, 156, 157, 0, 0, 0, 0), am_dum, am_dum, (.iconst 0, 157, 0, 0, 0, 0, 0), (.istore_n 2, 158, 2, 0, 0, 0, 0), 
  (.goto (-44), 161, 114, 0, 0, 0, 0), am_dum, am_dum, (.aload_n 0, 162, 0, 0, 0, 0, 0), (.dup, 163, 0, 0, 0, 0, 0), (.getfield 154, 166, 8, 23, 0, 0, 0), am_dum, am_dum, (.iconst 1, 167, 0, 0, 0, 1, 0), 
  (.iadd, 168, 0, 0, 0, 0, 0), (.putfield 154, 171, 8, 23, 0, 0, 0), am_dum, am_dum, (.goto 46, 174, 217, 0, 0, 0, 0), am_dum, am_dum, (.aload_n 0, 175, 0, 0, 0, 0, 0), (.invokevirtual 181, 178, 137, 0, 0, 0, 0), am_dum, am_dum, 
  (.aload_n 0, 179, 0, 0, 0, 0, 0), (.invokevirtual 160, 182, 132, 0, 0, 0, 0), am_dum, am_dum, (.bipush 42, 184, 0, 0, 0, 42, 0), am_dum, (.if_icmp .ne 33, 187, 217, 0, 0, 0, 0), am_dum, am_dum, (.aload_n 0, 188, 0, 0, 0, 0, 0), 
  (.getfield 157, 191, 8, 24, 0, 0, 0), am_dum, am_dum, (.ifCond .ge 26, 194, 217, 0, 0, 0, 0), am_dum, am_dum, (.aload_n 0, 195, 0, 0, 0, 0, 0), (.dup, 196, 0, 0, 0, 0, 0), (.getfield 154, 199, 8, 23, 0, 0, 0), am_dum, am_dum, 
  (.iconst 1, 200, 0, 0, 0, 1, 0), (.iadd, 201, 0, 0, 0, 0, 0), (.putfield 154, 204, 8, 23, 0, 0, 0), am_dum, am_dum, (.aload_n 0, 205, 0, 0, 0, 0, 0), (.getfield 51, 208, 8, 18, 0, 0, 0), am_dum, am_dum, 
  (.aload_n 0, 209, 0, 0, 0, 0, 0), (.getfield 175, 212, 8, 21, 0, 0, 0), am_dum, am_dum, (.dup2, 213, 0, 0, 0, 0, 0), (.iaload, 214, 0, 0, 0, 0, 0), (.iconst 2, 215, 0, 0, 0, 2, 0), (.iadd, 216, 0, 0, 0, 0, 0), 
  (.iastore, 217, 0, 0, 0, 0, 0), (.aload_n 0, 218, 0, 0, 0, 0, 0), (.dup, 219, 0, 0, 0, 0, 0), (.getfield 175, 222, 8, 21, 0, 0, 0), am_dum, am_dum, (.iconst 1, 223, 0, 0, 0, 1, 0), (.iadd, 224, 0, 0, 0, 0, 0), 
  (.putfield 175, 227, 8, 21, 0, 0, 0), am_dum, am_dum, (.return_, 228, 0, 0, 0, 0, 0)]
def k_Mo_readQuestion : List am_e := [
  (.aload_n 0, 1, 0, 0, 0, 0, 0), (.iconst 0, 2, 0, 0, 0, 0, 0), (.putfield 154, 5, 8, 23, 0, 0, 0), am_dum, am_dum, (.aload_n 0, 6, 0, 0, 0, 0, 0), (.iconst (-1), 7, 0, 0, 0, -1, 0), (.putfield 157, 10, 8, 24, 0, 0, 0), am_dum, 
  am_dum, (.aload_n 0, 11, 0, 0, 0, 0, 0), (.iconst 0, 12, 0, 0, 0, 0, 0), (.putfield 175, 15, 8, 21, 0, 0, 0), am_dum, am_dum, (.aload_n 0, 16, 0, 0, 0, 0, 0), (.iconst 0, 17, 0, 0, 0, 0, 0), (.putfield 172, 20, 8, 22, 0, 0, 0), 
  am_dum, am_dum, (.iconst 0, 21, 0, 0, 0, 0, 0), (.istore_n 1, 22, 1, 0, 0, 0, 0), (.iconst 1, 23, 0, 0, 0, 1, 0), (.istore_n 2, 24, 2, 0, 0, 0, 0), (.iload_n 2, 25, 2, 0, 0, 0, 0), (.ifCond .eq 97, 28, 122, 0, 0, 0, 0), am_dum, 
  am_dum, (.aload_n 0, 29, 0, 0, 0, 0, 0), (.getfield 157, 32, 8, 24, 0, 0, 0), am_dum, am_dum, (.ifCond .ge 90, 35, 122, 0, 0, 0, 0), am_dum, am_dum, (.aload_n 0, 36, 0, 0, 0, 0, 0), (.invokevirtual 178, 39, 134, 0, 0, 0, 0), 
  am_dum, am_dum, (.aload_n 0, 40, 0, 0, 0, 0, 0), (.aload_n 0, 41, 0, 0, 0, 0, 0), (.invokevirtual 184, 44, 136, 0, 0, 0, 0), am_dum, am_dum, (.invokevirtual 168, 47, 133, 0, 1, 0, 0), am_dum, am_dum, 
  (.aload_n 0, 48, 0, 0, 0, 0, 0), (.getfield 157, 51, 8, 24, 0, 0, 0), am_dum, am_dum, (.ifCond .ge 29, 54, 80, 0, 0, 0, 0), am_dum, am_dum, (.aload_n 0, 55, 0, 0, 0, 0, 0), (.invokevirtual 184, 58, 136, 0, 0, 0, 0), am_dum, 
  am_dum, (.ifCond .eq 22, 61, 80, 0, 0, 0, 0), am_dum, am_dum, (.aload_n 0, 62, 0, 0, 0, 0, 0), (.iload_n 1, 63, 1, 0, 0, 0, 0), (.invokevirtual 187, 66, 138, 0, 1, 0, 0), am_dum, am_dum, (.aload_n 0, 67, 0, 0, 0, 0, 0), 
  (.getfield 157, 70, 8, 24, 0, 0, 0), am_dum, am_dum, (.ifCond .ge (-23), 73, 47, 0, 0, 0, 0), am_dum, am_dum, (.aload_n 0, 74, 0, 0, 0, 0, 0), (.invokevirtual 178, 77, 134, 0, 0, 0, 0), am_dum, am_dum, 
  (.goto (-30), 80, 47, 0, 0, 0, 0), am_dum, am_dum, (.aload_n 0, 81, 0, 0, 0, 0, 0), (.invokevirtual 160, 84, 132, 0, 0, 0, 0), am_dum, am_dum, (.bipush 124, 86, 0, 0, 0, 124, 0), am_dum, (.if_icmp .ne 7, 89, 93, 0, 0, 0, 0), 
  am_dum, am_dum, (.iconst 1, 90, 0, 0, 0, 1, 0), (.goto 4, 93, 94, 0, 0, 0, 0), am_dum, am_dum, (.iconst 0, 94, 0, 0, 0, 0, 0), (.istore_n 2, 95, 2, 0, 0, 0, 0), (.iload_n 2, 96, 2, 0, 0, 0, 0), 
  (.ifCond .eq (-72), 99, 24, 0, 0, 0, 0), am_dum, am_dum, (.aload_n 0, 100, 0, 0, 0, 0, 0), (.getfield 157, 103, 8, 24, 0, 0, 0), am_dum, am_dum, (.ifCond .ge (-79), 106, 24, 0, 0, 0, 0), am_dum, am_dum, 
  (.aload_n 0, 107, 0, 0, 0, 0, 0), (.dup, 108, 0, 0, 0, 0, 0), (.getfield 154, 111, 8, 23, 0, 0, 0), am_dum, am_dum, (.iconst 1, 112, 0, 0, 0, 1, 0), (.iadd, 113, 0, 0, 0, 0, 0), (.putfield 154, 116, 8, 23, 0, 0, 0), am_dum, 
  am_dum, (.iinc 1 1, 119, 1, 0, 0, 1, 0), am_dum, am_dum, (.goto (-95), 122, 24, 0, 0, 0, 0), am_dum, am_dum, (.aload_n 0, 123, 0, 0, 0, 0, 0), (.aload_n 0, 124, 0, 0, 0, 0, 0), (.getfield 154, 127, 8, 23, 0, 0, 0), am_dum, 
  am_dum, (.aload_n 0, 128, 0, 0, 0, 0, 0), (.getfield 84, 131, 8, 3, 0, 0, 0), am_dum, am_dum, (.if_icmp .ne 7, 134, 138, 0, 0, 0, 0), am_dum, am_dum, (.iconst 1, 135, 0, 0, 0, 1, 0), (.goto 4, 138, 139, 0, 0, 0, 0), am_dum, 
  am_dum, (.iconst 0, 139, 0, 0, 0, 0, 0), (.invokevirtual 168, 142, 133, 0, 1, 0, 0), am_dum, am_dum, (.aload_n 0, 143, 0, 0, 0, 0, 0), (.iconst 0, 144, 0, 0, 0, 0, 0), (.putfield 84, 147, 8, 3, 0, 0, 0), am_dum, am_dum, 
  (.iload_n 1, 148, 1, 0, 0, 0, 0), (.iconst 1, 149, 0, 0, 0, 1, 0), (.iadd, 150, 0, 0, 0, 0, 0), (.ireturn, 151, 0, 0, 0, 0, 0)]
def k_Mo_hasPhrase : List am_e := [
  (.aload_n 0, 1, 0, 0, 0, 0, 0), (.getfield 57, 4, 8, 20, 0, 0, 0), am_dum, am_dum, (.iload_n 2, 5, 2, 0, 0, 0, 0), (.iaload, 6, 0, 0, 0, 0, 0), (.istore_n 3, 7, 3, 0, 0, 0, 0), (.iconst 0, 8, 0, 0, 0, 0, 0), 
  (.istore 4, 10, 4, 0, 0, 0, 0), am_dum, (.iload 4, 12, 4, 0, 0, 0, 0), am_dum, (.iload_n 3, 13, 3, 0, 0, 0, 0), (.iadd, 14, 0, 0, 0, 0, 0), (.aload_n 0, 15, 0, 0, 0, 0, 0), (.getfield 27, 18, 8, 6, 0, 0, 0), am_dum, am_dum, 
  (.iload_n 1, 19, 1, 0, 0, 0, 0), (.iaload, 20, 0, 0, 0, 0, 0), (.if_icmp .gt 99, 23, 119, 0, 0, 0, 0), am_dum, am_dum, (.iconst 1, 24, 0, 0, 0, 1, 0), (.istore 5, 26, 5, 0, 0, 0, 0), am_dum, (.iconst 0, 27, 0, 0, 0, 0, 0), 
  (.istore 6, 29, 6, 0, 0, 0, 0), am_dum, (.iload 6, 31, 6, 0, 0, 0, 0), am_dum, (.iload_n 3, 32, 3, 0, 0, 0, 0), (.if_icmp .ge 74, 35, 106, 0, 0, 0, 0), am_dum, am_dum, (.iload 5, 37, 5, 0, 0, 0, 0), am_dum, 
  (.ifCond .eq 69, 40, 106, 0, 0, 0, 0), am_dum, am_dum, (.aload_n 0, 41, 0, 0, 0, 0, 0), (.getfield 54, 44, 8, 19, 0, 0, 0), am_dum, am_dum, (.iload_n 2, 45, 2, 0, 0, 0, 0), (.iaload, 46, 0, 0, 0, 0, 0), 
  (.iload 6, 48, 6, 0, 0, 0, 0), am_dum, (.iadd, 49, 0, 0, 0, 0, 0), (.istore 7, 51, 7, 0, 0, 0, 0), am_dum, (.aload_n 0, 52, 0, 0, 0, 0, 0), (.aload_n 0, 53, 0, 0, 0, 0, 0), (.getfield 21, 56, 8, 4, 0, 0, 0), am_dum, am_dum, 
  (.iload_n 1, 57, 1, 0, 0, 0, 0), (.iaload, 58, 0, 0, 0, 0, 0), (.iload 7, 60, 7, 0, 0, 0, 0), am_dum, (.invokevirtual 109, 63, 113, 0, 2, 0, 0), am_dum, am_dum, (.ifCond .eq 6, 66, 69, 0, 0, 0, 0), am_dum, am_dum, 
  (.goto 34, 69, 100, 0, 0, 0, 0), am_dum, am_dum, (.aload_n 0, 70, 0, 0, 0, 0, 0), (.aload_n 0, 71, 0, 0, 0, 0, 0), (.getfield 21, 74, 8, 4, 0, 0, 0), am_dum, am_dum, (.iload_n 1, 75, 1, 0, 0, 0, 0), (.iaload, 76, 0, 0, 0, 0, 0), 
  (.iload 7, 78, 7, 0, 0, 0, 0), am_dum, (.sipush 6033, 81, 0, 0, 0, 6033, 0), am_dum, am_dum, (.invokevirtual 124, 84, 118, 0, 3, 0, 0), am_dum, am_dum, (.aload_n 0, 85, 0, 0, 0, 0, 0), (.iload_n 1, 86, 1, 0, 0, 0, 0), 
  (.iload 4, 88, 4, 0, 0, 0, 0), am_dum, (.iload 6, 90, 6, 0, 0, 0, 0), am_dum, (.iadd, 91, 0, 0, 0, 0, 0), (.sipush 6033, 94, 0, 0, 0, 6033, 0), am_dum, am_dum, (.iconst 0, 95, 0, 0, 0, 0, 0), 
  (.invokevirtual 146, 98, 128, 0, 4, 0, 0), am_dum, am_dum, (.istore 5, 100, 5, 0, 0, 0, 0), am_dum, (.iinc 6 1, 103, 6, 0, 0, 1, 0), am_dum, am_dum, (.goto (-74), 106, 29, 0, 0, 0, 0), am_dum, am_dum, 
  (.iload 5, 108, 5, 0, 0, 0, 0), am_dum, (.ifCond .eq 5, 111, 113, 0, 0, 0, 0), am_dum, am_dum, (.iconst 1, 112, 0, 0, 0, 1, 0), (.ireturn, 113, 1, 0, 0, 0, 0), (.iinc 4 1, 116, 4, 0, 0, 1, 0), am_dum, am_dum, 
  (.goto (-106), 119, 10, 0, 0, 0, 0), am_dum, am_dum, (.iconst 0, 120, 0, 0, 0, 0, 0), (.ireturn, 121, 1, 0, 0, 0, 0)]
def k_Mo_answersPart : List am_e := [
  (.aload_n 0, 1, 0, 0, 0, 0, 0), (.getfield 51, 4, 8, 18, 0, 0, 0), am_dum, am_dum, (.iload_n 2, 5, 2, 0, 0, 0, 0), (.iaload, 6, 0, 0, 0, 0, 0), (.bipush 6, 8, 0, 0, 0, 6, 0), am_dum, (.iand, 9, 0, 0, 0, 0, 0), 
  (.istore_n 3, 10, 3, 0, 0, 0, 0), (.aload_n 0, 11, 0, 0, 0, 0, 0), (.getfield 54, 14, 8, 19, 0, 0, 0), am_dum, am_dum, (.iload_n 2, 15, 2, 0, 0, 0, 0), (.iaload, 16, 0, 0, 0, 0, 0), (.istore 4, 18, 4, 0, 0, 0, 0), am_dum, 
  (.iload_n 3, 19, 3, 0, 0, 0, 0), (.iconst 4, 20, 0, 0, 0, 4, 0), (.if_icmp .ne 10, 23, 30, 0, 0, 0, 0), am_dum, am_dum, (.aload_n 0, 24, 0, 0, 0, 0, 0), (.iload_n 1, 25, 1, 0, 0, 0, 0), (.iload_n 2, 26, 2, 0, 0, 0, 0), 
  (.invokevirtual 191, 29, 140, 0, 2, 0, 0), am_dum, am_dum, (.ireturn, 30, 1, 0, 0, 0, 0), (.iload_n 3, 31, 3, 0, 0, 0, 0), (.iconst 2, 32, 0, 0, 0, 2, 0), (.if_icmp .ne 20, 35, 52, 0, 0, 0, 0), am_dum, am_dum, 
  (.aload_n 0, 36, 0, 0, 0, 0, 0), (.iload_n 1, 37, 1, 0, 0, 0, 0), (.iload 4, 39, 4, 0, 0, 0, 0), am_dum, (.iconst 1, 40, 0, 0, 0, 1, 0), (.invokevirtual 194, 43, 129, 0, 3, 0, 0), am_dum, am_dum, 
  (.ifCond .le 7, 46, 50, 0, 0, 0, 0), am_dum, am_dum, (.iconst 1, 47, 0, 0, 0, 1, 0), (.goto 4, 50, 51, 0, 0, 0, 0), am_dum, am_dum, (.iconst 0, 51, 0, 0, 0, 0, 0), (.ireturn, 52, 1, 0, 0, 0, 0), (.aload_n 0, 53, 0, 0, 0, 0, 0), 
  (.aload_n 0, 54, 0, 0, 0, 0, 0), (.getfield 21, 57, 8, 4, 0, 0, 0), am_dum, am_dum, (.iload_n 1, 58, 1, 0, 0, 0, 0), (.iaload, 59, 0, 0, 0, 0, 0), (.iload 4, 61, 4, 0, 0, 0, 0), am_dum, (.invokevirtual 109, 64, 113, 0, 2, 0, 0), 
  am_dum, am_dum, (.ifCond .eq 5, 67, 69, 0, 0, 0, 0), am_dum, am_dum, (.iconst 0, 68, 0, 0, 0, 0, 0), (.ireturn, 69, 1, 0, 0, 0, 0), (.aload_n 0, 70, 0, 0, 0, 0, 0), (.aload_n 0, 71, 0, 0, 0, 0, 0), 
  (.getfield 21, 74, 8, 4, 0, 0, 0), am_dum, am_dum, (.iload_n 1, 75, 1, 0, 0, 0, 0), (.iaload, 76, 0, 0, 0, 0, 0), (.iload 4, 78, 4, 0, 0, 0, 0), am_dum, (.sipush 6033, 81, 0, 0, 0, 6033, 0), am_dum, am_dum, 
  (.invokevirtual 124, 84, 118, 0, 3, 0, 0), am_dum, am_dum, (.aload_n 0, 85, 0, 0, 0, 0, 0), (.iload_n 1, 86, 1, 0, 0, 0, 0), (.sipush 6033, 89, 0, 0, 0, 6033, 0), am_dum, am_dum, (.iconst 0, 90, 0, 0, 0, 0, 0), 
  (.invokevirtual 194, 93, 129, 0, 3, 0, 0), am_dum, am_dum, (.ifCond .le 7, 96, 100, 0, 0, 0, 0), am_dum, am_dum, (.iconst 1, 97, 0, 0, 0, 1, 0), (.goto 4, 100, 101, 0, 0, 0, 0), am_dum, am_dum, (.iconst 0, 101, 0, 0, 0, 0, 0), 
  (.ireturn, 102, 1, 0, 0, 0, 0)]
def k_Mo_answersRow : List am_e := [
  (.iconst 0, 1, 0, 0, 0, 0, 0), (.istore_n 3, 2, 3, 0, 0, 0, 0), (.iload_n 3, 3, 3, 0, 0, 0, 0), (.aload_n 0, 4, 0, 0, 0, 0, 0), (.getfield 175, 7, 8, 21, 0, 0, 0), am_dum, am_dum, (.if_icmp .ge 46, 10, 53, 0, 0, 0, 0), am_dum, 
  am_dum, (.aload_n 0, 11, 0, 0, 0, 0, 0), (.getfield 48, 14, 8, 17, 0, 0, 0), am_dum, am_dum, (.iload_n 3, 15, 3, 0, 0, 0, 0), (.iaload, 16, 0, 0, 0, 0, 0), (.iload_n 2, 17, 2, 0, 0, 0, 0), (.if_icmp .ne 30, 20, 47, 0, 0, 0, 0), 
  am_dum, am_dum, (.aload_n 0, 21, 0, 0, 0, 0, 0), (.iload_n 1, 22, 1, 0, 0, 0, 0), (.iload_n 3, 23, 3, 0, 0, 0, 0), (.invokevirtual 198, 26, 141, 0, 2, 0, 0), am_dum, am_dum, (.aload_n 0, 27, 0, 0, 0, 0, 0), 
  (.getfield 51, 30, 8, 18, 0, 0, 0), am_dum, am_dum, (.iload_n 3, 31, 3, 0, 0, 0, 0), (.iaload, 32, 0, 0, 0, 0, 0), (.iconst 2, 33, 0, 0, 0, 2, 0), (.irem, 34, 0, 0, 0, 0, 0), (.ifCond .ne 7, 37, 41, 0, 0, 0, 0), am_dum, am_dum, 
  (.iconst 1, 38, 0, 0, 0, 1, 0), (.goto 4, 41, 42, 0, 0, 0, 0), am_dum, am_dum, (.iconst 0, 42, 0, 0, 0, 0, 0), (.if_icmp .eq 5, 45, 47, 0, 0, 0, 0), am_dum, am_dum, (.iconst 0, 46, 0, 0, 0, 0, 0), (.ireturn, 47, 1, 0, 0, 0, 0), 
  (.iinc 3 1, 50, 3, 0, 0, 1, 0), am_dum, am_dum, (.goto (-48), 53, 2, 0, 0, 0, 0), am_dum, am_dum, (.iconst 1, 54, 0, 0, 0, 1, 0), (.ireturn, 55, 1, 0, 0, 0, 0)]
def k_Mo_isAsked : List am_e := [
  (.aload_n 0, 1, 0, 0, 0, 0, 0), (.getfield 21, 4, 8, 4, 0, 0, 0), am_dum, am_dum, (.iload_n 1, 5, 1, 0, 0, 0, 0), (.iaload, 6, 0, 0, 0, 0, 0), (.iload_n 2, 7, 2, 0, 0, 0, 0), (.if_icmp .ne 21, 10, 28, 0, 0, 0, 0), am_dum, am_dum, 
  (.iload_n 3, 11, 3, 0, 0, 0, 0), (.ifCond .lt 13, 14, 24, 0, 0, 0, 0), am_dum, am_dum, (.aload_n 0, 15, 0, 0, 0, 0, 0), (.getfield 24, 18, 8, 5, 0, 0, 0), am_dum, am_dum, (.iload_n 1, 19, 1, 0, 0, 0, 0), 
  (.iaload, 20, 0, 0, 0, 0, 0), (.iload_n 3, 21, 3, 0, 0, 0, 0), (.if_icmp .ne 7, 24, 28, 0, 0, 0, 0), am_dum, am_dum, (.iconst 1, 25, 0, 0, 0, 1, 0), (.goto 4, 28, 29, 0, 0, 0, 0), am_dum, am_dum, (.iconst 0, 29, 0, 0, 0, 0, 0), 
  (.ireturn, 30, 1, 0, 0, 0, 0)]
def k_Mo_countStems : List am_e := [
  (.iconst 0, 1, 0, 0, 0, 0, 0), (.istore_n 2, 2, 2, 0, 0, 0, 0), (.iconst 0, 3, 0, 0, 0, 0, 0), (.istore_n 3, 4, 3, 0, 0, 0, 0), (.iload_n 3, 5, 3, 0, 0, 0, 0), (.aload_n 0, 6, 0, 0, 0, 0, 0), (.getfield 175, 9, 8, 21, 0, 0, 0), 
  am_dum, am_dum, (.if_icmp .ge 112, 12, 121, 0, 0, 0, 0), am_dum, am_dum, (.aload_n 0, 13, 0, 0, 0, 0, 0), (.getfield 51, 16, 8, 18, 0, 0, 0), am_dum, am_dum, (.iload_n 3, 17, 3, 0, 0, 0, 0), (.iaload, 18, 0, 0, 0, 0, 0), 
  (.ifCond .ne 97, 21, 115, 0, 0, 0, 0), am_dum, am_dum, (.aload_n 0, 22, 0, 0, 0, 0, 0), (.iload_n 1, 23, 1, 0, 0, 0, 0), (.aload_n 0, 24, 0, 0, 0, 0, 0), (.getfield 54, 27, 8, 19, 0, 0, 0), am_dum, am_dum, 
  (.iload_n 3, 28, 3, 0, 0, 0, 0), (.iaload, 29, 0, 0, 0, 0, 0), (.invokevirtual 109, 32, 113, 0, 2, 0, 0), am_dum, am_dum, (.ifCond .eq 6, 35, 38, 0, 0, 0, 0), am_dum, am_dum, (.goto 80, 38, 115, 0, 0, 0, 0), am_dum, am_dum, 
  (.aload_n 0, 39, 0, 0, 0, 0, 0), (.iload_n 1, 40, 1, 0, 0, 0, 0), (.aload_n 0, 41, 0, 0, 0, 0, 0), (.getfield 54, 44, 8, 19, 0, 0, 0), am_dum, am_dum, (.iload_n 3, 45, 3, 0, 0, 0, 0), (.iaload, 46, 0, 0, 0, 0, 0), 
  (.sipush 4064, 49, 0, 0, 0, 4064, 0), am_dum, am_dum, (.iload_n 2, 50, 2, 0, 0, 0, 0), (.iadd, 51, 0, 0, 0, 0, 0), (.invokevirtual 124, 54, 118, 0, 3, 0, 0), am_dum, am_dum, (.iconst 0, 55, 0, 0, 0, 0, 0), 
  (.istore 4, 57, 4, 0, 0, 0, 0), am_dum, (.iconst 0, 58, 0, 0, 0, 0, 0), (.istore 5, 60, 5, 0, 0, 0, 0), am_dum, (.iload 5, 62, 5, 0, 0, 0, 0), am_dum, (.iload_n 2, 63, 2, 0, 0, 0, 0), (.if_icmp .ge 39, 66, 102, 0, 0, 0, 0), 
  am_dum, am_dum, (.iload 4, 68, 4, 0, 0, 0, 0), am_dum, (.ifCond .ne 21, 71, 89, 0, 0, 0, 0), am_dum, am_dum, (.aload_n 0, 72, 0, 0, 0, 0, 0), (.sipush 4064, 75, 0, 0, 0, 4064, 0), am_dum, am_dum, (.iload 5, 77, 5, 0, 0, 0, 0), 
  am_dum, (.iadd, 78, 0, 0, 0, 0, 0), (.sipush 4064, 81, 0, 0, 0, 4064, 0), am_dum, am_dum, (.iload_n 2, 82, 2, 0, 0, 0, 0), (.iadd, 83, 0, 0, 0, 0, 0), (.invokevirtual 98, 86, 105, 0, 2, 0, 0), am_dum, am_dum, 
  (.ifCond .eq 7, 89, 93, 0, 0, 0, 0), am_dum, am_dum, (.iconst 1, 90, 0, 0, 0, 1, 0), (.goto 4, 93, 94, 0, 0, 0, 0), am_dum, am_dum, (.iconst 0, 94, 0, 0, 0, 0, 0), (.istore 4, 96, 4, 0, 0, 0, 0), am_dum, 
  (.iinc 5 1, 99, 5, 0, 0, 1, 0), am_dum, am_dum, (.goto (-39), 102, 60, 0, 0, 0, 0), am_dum, am_dum, (.iload_n 2, 103, 2, 0, 0, 0, 0), (.iload 4, 105, 4, 0, 0, 0, 0), am_dum, (.ifCond .eq 7, 108, 112, 0, 0, 0, 0), am_dum, am_dum, 
  (.iconst 0, 109, 0, 0, 0, 0, 0), (.goto 4, 112, 113, 0, 0, 0, 0), am_dum, am_dum, (.iconst 1, 113, 0, 0, 0, 1, 0), (.iadd, 114, 0, 0, 0, 0, 0), (.istore_n 2, 115, 2, 0, 0, 0, 0), (.iinc 3 1, 118, 3, 0, 0, 1, 0), am_dum, am_dum, 
  (.goto (-114), 121, 4, 0, 0, 0, 0), am_dum, am_dum, (.iload_n 2, 122, 2, 0, 0, 0, 0), (.ireturn, 123, 0, 0, 0, 0, 0)]
def k_Mo_scoreOf : List am_e := [
  (.lconst 0, 1, 0, 0, 0, 0, 0), (.lstore 5, 3, 5, 0, 0, 0, 0), am_dum, (.iconst 0, 4, 0, 0, 0, 0, 0), (.istore 7, 6, 7, 0, 0, 0, 0), am_dum, (.iload 7, 8, 7, 0, 0, 0, 0), am_dum, (.iload 4, 10, 4, 0, 0, 0, 0), am_dum, 
  (.if_icmp .ge 98, 13, 108, 0, 0, 0, 0), am_dum, am_dum, (.iconst 0, 14, 0, 0, 0, 0, 0), (.istore 8, 16, 8, 0, 0, 0, 0), am_dum, (.iconst 0, 17, 0, 0, 0, 0, 0), (.istore 9, 19, 9, 0, 0, 0, 0), am_dum, 
  (.iload 9, 21, 9, 0, 0, 0, 0), am_dum, (.aload_n 0, 22, 0, 0, 0, 0, 0), (.getfield 131, 25, 8, 9, 0, 0, 0), am_dum, am_dum, (.if_icmp .ge 46, 28, 71, 0, 0, 0, 0), am_dum, am_dum, (.iload 8, 30, 8, 0, 0, 0, 0), am_dum, 
  (.aload_n 0, 31, 0, 0, 0, 0, 0), (.iload 9, 33, 9, 0, 0, 0, 0), am_dum, (.iload_n 2, 34, 2, 0, 0, 0, 0), (.iload_n 3, 35, 3, 0, 0, 0, 0), (.invokevirtual 201, 38, 143, 0, 3, 0, 0), am_dum, am_dum, 
  (.ifCond .eq 23, 41, 61, 0, 0, 0, 0), am_dum, am_dum, (.aload_n 0, 42, 0, 0, 0, 0, 0), (.iload 9, 44, 9, 0, 0, 0, 0), am_dum, (.sipush 4064, 47, 0, 0, 0, 4064, 0), am_dum, am_dum, (.iload 7, 49, 7, 0, 0, 0, 0), am_dum, 
  (.iadd, 50, 0, 0, 0, 0, 0), (.iconst 0, 51, 0, 0, 0, 0, 0), (.invokevirtual 194, 54, 129, 0, 3, 0, 0), am_dum, am_dum, (.ifCond .le 7, 57, 61, 0, 0, 0, 0), am_dum, am_dum, (.iconst 1, 58, 0, 0, 0, 1, 0), 
  (.goto 4, 61, 62, 0, 0, 0, 0), am_dum, am_dum, (.iconst 0, 62, 0, 0, 0, 0, 0), (.iadd, 63, 0, 0, 0, 0, 0), (.istore 8, 65, 8, 0, 0, 0, 0), am_dum, (.iinc 9 1, 68, 9, 0, 0, 1, 0), am_dum, am_dum, (.goto (-49), 71, 19, 0, 0, 0, 0), 
  am_dum, am_dum, (.iload 8, 73, 8, 0, 0, 0, 0), am_dum, (.ifCond .le 29, 76, 102, 0, 0, 0, 0), am_dum, am_dum, (.lload 5, 78, 5, 0, 0, 0, 0), am_dum, (.aload_n 0, 79, 0, 0, 0, 0, 0), (.iload_n 1, 80, 1, 0, 0, 0, 0), 
  (.sipush 4064, 83, 0, 0, 0, 4064, 0), am_dum, am_dum, (.iload 7, 85, 7, 0, 0, 0, 0), am_dum, (.iadd, 86, 0, 0, 0, 0, 0), (.iconst 0, 87, 0, 0, 0, 0, 0), (.invokevirtual 194, 90, 129, 0, 3, 0, 0), am_dum, am_dum, 
  (.i2l, 91, 0, 0, 0, 0, 0), (.ldc2_w 204, 94, 0, 0, 0, 0, 5342931457063200), am_dum, am_dum, (.iload 8, 96, 8, 0, 0, 0, 0), am_dum, (.i2l, 97, 0, 0, 0, 0, 0), (.ldiv, 98, 0, 0, 0, 0, 0), (.lmul, 99, 0, 0, 0, 0, 0), 
  (.ladd, 100, 0, 0, 0, 0, 0), (.lstore 5, 102, 5, 0, 0, 0, 0), am_dum, (.iinc 7 1, 105, 7, 0, 0, 1, 0), am_dum, am_dum, (.goto (-99), 108, 6, 0, 0, 0, 0), am_dum, am_dum, (.lload 5, 110, 5, 0, 0, 0, 0), am_dum, 
  (.lreturn, 111, 0, 0, 0, 0, 0)]
def k_Mo_ask : List am_e := [
  (.iload_n 1, 1, 1, 0, 0, 0, 0), (.invokestatic 102, 4, 112, 3, 1, 0, 0), am_dum, am_dum, (.ifCond .eq 13, 7, 17, 0, 0, 0, 0), am_dum, am_dum, (.iload_n 2, 8, 2, 0, 0, 0, 0), (.iconst (-1), 9, 0, 0, 0, -1, 0), 
  (.if_icmp .lt 8, 12, 17, 0, 0, 0, 0), am_dum, am_dum, (.iload_n 2, 13, 2, 0, 0, 0, 0), (.iconst 4, 14, 0, 0, 0, 4, 0), (.if_icmp .lt 5, 17, 19, 0, 0, 0, 0), am_dum, am_dum, (.iconst (-1), 18, 0, 0, 0, -1, 0), 
  (.ireturn, 19, 0, 0, 0, 0, 0), (.aload_n 0, 20, 0, 0, 0, 0, 0), (.invokevirtual 206, 23, 139, 0, 0, 0, 0), am_dum, am_dum, (.istore_n 3, 24, 3, 0, 0, 0, 0), (.aload_n 0, 25, 0, 0, 0, 0, 0), (.getfield 157, 28, 8, 24, 0, 0, 0), 
  am_dum, am_dum, (.ifCond .lt 11, 31, 39, 0, 0, 0, 0), am_dum, am_dum, (.bipush (-10), 33, 0, 0, 0, -10, 0), am_dum, (.aload_n 0, 34, 0, 0, 0, 0, 0), (.getfield 157, 37, 8, 24, 0, 0, 0), am_dum, am_dum, (.isub, 38, 0, 0, 0, 0, 0), 
  (.ireturn, 39, 0, 0, 0, 0, 0), (.aload_n 0, 40, 0, 0, 0, 0, 0), (.iconst 0, 41, 0, 0, 0, 0, 0), (.putfield 209, 44, 8, 27, 0, 0, 0), am_dum, am_dum, (.aload_n 0, 45, 0, 0, 0, 0, 0), (.iload_n 1, 46, 1, 0, 0, 0, 0), 
  (.invokevirtual 212, 49, 144, 0, 1, 0, 0), am_dum, am_dum, (.istore 4, 51, 4, 0, 0, 0, 0), am_dum, (.iconst 0, 52, 0, 0, 0, 0, 0), (.istore 5, 54, 5, 0, 0, 0, 0), am_dum, (.iload 5, 56, 5, 0, 0, 0, 0), am_dum, 
  (.aload_n 0, 57, 0, 0, 0, 0, 0), (.getfield 131, 60, 8, 9, 0, 0, 0), am_dum, am_dum, (.if_icmp .ge 168, 63, 228, 0, 0, 0, 0), am_dum, am_dum, (.aload_n 0, 64, 0, 0, 0, 0, 0), (.iload 5, 66, 5, 0, 0, 0, 0), am_dum, 
  (.iload_n 1, 67, 1, 0, 0, 0, 0), (.iload_n 2, 68, 2, 0, 0, 0, 0), (.invokevirtual 201, 71, 143, 0, 3, 0, 0), am_dum, am_dum, (.ifCond .ne 6, 74, 77, 0, 0, 0, 0), am_dum, am_dum, (.goto 148, 77, 222, 0, 0, 0, 0), am_dum, am_dum, 
  (.iconst 0, 78, 0, 0, 0, 0, 0), (.istore 6, 80, 6, 0, 0, 0, 0), am_dum, (.iconst 0, 81, 0, 0, 0, 0, 0), (.istore 7, 83, 7, 0, 0, 0, 0), am_dum, (.iload 7, 85, 7, 0, 0, 0, 0), am_dum, (.iload_n 3, 86, 3, 0, 0, 0, 0), 
  (.if_icmp .ge 24, 89, 110, 0, 0, 0, 0), am_dum, am_dum, (.iload 6, 91, 6, 0, 0, 0, 0), am_dum, (.ifCond .ne 19, 94, 110, 0, 0, 0, 0), am_dum, am_dum, (.aload_n 0, 95, 0, 0, 0, 0, 0), (.iload 5, 97, 5, 0, 0, 0, 0), am_dum, 
  (.iload 7, 99, 7, 0, 0, 0, 0), am_dum, (.invokevirtual 215, 102, 142, 0, 2, 0, 0), am_dum, am_dum, (.istore 6, 104, 6, 0, 0, 0, 0), am_dum, (.iinc 7 1, 107, 7, 0, 0, 1, 0), am_dum, am_dum, (.goto (-24), 110, 83, 0, 0, 0, 0), 
  am_dum, am_dum, (.iload 6, 112, 6, 0, 0, 0, 0), am_dum, (.ifCond .ne 6, 115, 118, 0, 0, 0, 0), am_dum, am_dum, (.goto 107, 118, 222, 0, 0, 0, 0), am_dum, am_dum, (.aload_n 0, 119, 0, 0, 0, 0, 0), (.iload 5, 121, 5, 0, 0, 0, 0), 
  am_dum, (.iload_n 1, 122, 1, 0, 0, 0, 0), (.iload_n 2, 123, 2, 0, 0, 0, 0), (.iload 4, 125, 4, 0, 0, 0, 0), am_dum, (.invokevirtual 218, 128, 145, 0, 4, 0, 0), am_dum, am_dum, (.lstore 7, 130, 7, 0, 0, 0, 0), am_dum, 
  (.aload_n 0, 131, 0, 0, 0, 0, 0), (.getfield 209, 134, 8, 27, 0, 0, 0), am_dum, am_dum, (.istore 9, 136, 9, 0, 0, 0, 0), am_dum, (.iload 9, 138, 9, 0, 0, 0, 0), am_dum, (.ifCond .le 56, 141, 194, 0, 0, 0, 0), am_dum, am_dum, 
  (.aload_n 0, 142, 0, 0, 0, 0, 0), (.getfield 63, 145, 8, 26, 0, 0, 0), am_dum, am_dum, (.iload 9, 147, 9, 0, 0, 0, 0), am_dum, (.iconst 1, 148, 0, 0, 0, 1, 0), (.isub, 149, 0, 0, 0, 0, 0), (.laload, 150, 0, 0, 0, 0, 0), 
  (.lload 7, 152, 7, 0, 0, 0, 0), am_dum, (.lcmp, 153, 0, 0, 0, 0, 0), (.ifCond .ge 41, 156, 194, 0, 0, 0, 0), am_dum, am_dum, (.aload_n 0, 157, 0, 0, 0, 0, 0), (.getfield 63, 160, 8, 26, 0, 0, 0), am_dum, am_dum, 
  (.iload 9, 162, 9, 0, 0, 0, 0), am_dum, (.aload_n 0, 163, 0, 0, 0, 0, 0), (.getfield 63, 166, 8, 26, 0, 0, 0), am_dum, am_dum, (.iload 9, 168, 9, 0, 0, 0, 0), am_dum, (.iconst 1, 169, 0, 0, 0, 1, 0), (.isub, 170, 0, 0, 0, 0, 0), 
  (.laload, 171, 0, 0, 0, 0, 0), (.lastore, 172, 0, 0, 0, 0, 0), (.aload_n 0, 173, 0, 0, 0, 0, 0), (.getfield 60, 176, 8, 25, 0, 0, 0), am_dum, am_dum, (.iload 9, 178, 9, 0, 0, 0, 0), am_dum, (.aload_n 0, 179, 0, 0, 0, 0, 0), 
  (.getfield 60, 182, 8, 25, 0, 0, 0), am_dum, am_dum, (.iload 9, 184, 9, 0, 0, 0, 0), am_dum, (.iconst 1, 185, 0, 0, 0, 1, 0), (.isub, 186, 0, 0, 0, 0, 0), (.iaload, 187, 0, 0, 0, 0, 0), (.iastore, 188, 0, 0, 0, 0, 0), 
  (.iinc 9 (-1), 191, 9, 0, 0, -1, 0), am_dum, am_dum, (.goto (-55), 194, 136, 0, 0, 0, 0), am_dum, am_dum, (.aload_n 0, 195, 0, 0, 0, 0, 0), (.getfield 63, 198, 8, 26, 0, 0, 0), am_dum, am_dum, (.iload 9, 200, 9, 0, 0, 0, 0), 
  am_dum, (.lload 7, 202, 7, 0, 0, 0, 0), am_dum, (.lastore, 203, 0, 0, 0, 0, 0), (.aload_n 0, 204, 0, 0, 0, 0, 0), (.getfield 60, 207, 8, 25, 0, 0, 0), am_dum, am_dum, (.iload 9, 209, 9, 0, 0, 0, 0), am_dum, 
  (.iload 5, 211, 5, 0, 0, 0, 0), am_dum, (.iastore, 212, 0, 0, 0, 0, 0), (.aload_n 0, 213, 0, 0, 0, 0, 0), (.dup, 214, 0, 0, 0, 0, 0), (.getfield 209, 217, 8, 27, 0, 0, 0), am_dum, am_dum, (.iconst 1, 218, 0, 0, 0, 1, 0), 
  (.iadd, 219, 0, 0, 0, 0, 0), (.putfield 209, 222, 8, 27, 0, 0, 0), am_dum, am_dum, (.iinc 5 1, 225, 5, 0, 0, 1, 0), am_dum, am_dum, (.goto (-171), 228, 54, 0, 0, 0, 0), am_dum, am_dum, (.aload_n 0, 229, 0, 0, 0, 0, 0), 
  (.getfield 209, 232, 8, 27, 0, 0, 0), am_dum, am_dum, (.ireturn, 233, 0, 0, 0, 0, 0)]
def k_Mo_answer : List am_e := [
  (.iload_n 1, 1, 1, 0, 0, 0, 0), (.ifCond .lt 20, 4, 21, 0, 0, 0, 0), am_dum, am_dum, (.iload_n 1, 5, 1, 0, 0, 0, 0), (.aload_n 0, 6, 0, 0, 0, 0, 0), (.getfield 209, 9, 8, 27, 0, 0, 0), am_dum, am_dum, 
  (.if_icmp .ge 12, 12, 21, 0, 0, 0, 0), am_dum, am_dum, (.aload_n 0, 13, 0, 0, 0, 0, 0), (.getfield 60, 16, 8, 25, 0, 0, 0), am_dum, am_dum, (.iload_n 1, 17, 1, 0, 0, 0, 0), (.iaload, 18, 0, 0, 0, 0, 0), 
  (.goto 5, 21, 23, 0, 0, 0, 0), am_dum, am_dum, (.bipush (-2), 23, 0, 0, 0, -2, 0), am_dum, (.ireturn, 24, 0, 0, 0, 0, 0)]
def k_Mo_score : List am_e := [
  (.iload_n 1, 1, 1, 0, 0, 0, 0), (.ifCond .lt 20, 4, 21, 0, 0, 0, 0), am_dum, am_dum, (.iload_n 1, 5, 1, 0, 0, 0, 0), (.aload_n 0, 6, 0, 0, 0, 0, 0), (.getfield 209, 9, 8, 27, 0, 0, 0), am_dum, am_dum, 
  (.if_icmp .ge 12, 12, 21, 0, 0, 0, 0), am_dum, am_dum, (.aload_n 0, 13, 0, 0, 0, 0, 0), (.getfield 63, 16, 8, 26, 0, 0, 0), am_dum, am_dum, (.iload_n 1, 17, 1, 0, 0, 0, 0), (.laload, 18, 0, 0, 0, 0, 0), 
  (.goto 4, 21, 22, 0, 0, 0, 0), am_dum, am_dum, (.lconst 0, 22, 0, 0, 0, 0, 0), (.lreturn, 23, 0, 0, 0, 0, 0)]
def k_Mo_distance : List am_e := [
  (.iconst 0, 1, 0, 0, 0, 0, 0), (.istore_n 3, 2, 3, 0, 0, 0, 0), (.iload_n 3, 3, 3, 0, 0, 0, 0), (.aload_n 0, 4, 0, 0, 0, 0, 0), (.getfield 14, 7, 8, 1, 0, 0, 0), am_dum, am_dum, (.iload_n 1, 8, 1, 0, 0, 0, 0), 
  (.iaload, 9, 0, 0, 0, 0, 0), (.if_icmp .gt 176, 12, 185, 0, 0, 0, 0), am_dum, am_dum, (.iconst 0, 13, 0, 0, 0, 0, 0), (.istore 4, 15, 4, 0, 0, 0, 0), am_dum, (.iload 4, 17, 4, 0, 0, 0, 0), am_dum, (.aload_n 0, 18, 0, 0, 0, 0, 0), 
  (.getfield 14, 21, 8, 1, 0, 0, 0), am_dum, am_dum, (.iload_n 2, 22, 2, 0, 0, 0, 0), (.iaload, 23, 0, 0, 0, 0, 0), (.if_icmp .gt 156, 26, 179, 0, 0, 0, 0), am_dum, am_dum, (.iload_n 3, 27, 3, 0, 0, 0, 0), 
  (.ifCond .ne 8, 30, 35, 0, 0, 0, 0), am_dum, am_dum, (.iload 4, 32, 4, 0, 0, 0, 0), am_dum, (.goto 4, 35, 36, 0, 0, 0, 0), am_dum, am_dum, (.iload_n 3, 36, 3, 0, 0, 0, 0), (.istore 5, 38, 5, 0, 0, 0, 0), am_dum, 
  (.iload_n 3, 39, 3, 0, 0, 0, 0), (.ifCond .le 120, 42, 159, 0, 0, 0, 0), am_dum, am_dum, (.iload 4, 44, 4, 0, 0, 0, 0), am_dum, (.ifCond .le 115, 47, 159, 0, 0, 0, 0), am_dum, am_dum, (.aload_n 0, 48, 0, 0, 0, 0, 0), 
  (.getfield 73, 51, 8, 32, 0, 0, 0), am_dum, am_dum, (.bipush 13, 53, 0, 0, 0, 13, 0), am_dum, (.iload_n 3, 54, 3, 0, 0, 0, 0), (.imul, 55, 0, 0, 0, 0, 0), (.iload 4, 57, 4, 0, 0, 0, 0), am_dum, (.iadd, 58, 0, 0, 0, 0, 0), 
  (.bipush 14, 60, 0, 0, 0, 14, 0), am_dum, (.isub, 61, 0, 0, 0, 0, 0), (.iaload, 62, 0, 0, 0, 0, 0), (.aload_n 0, 63, 0, 0, 0, 0, 0), (.iload_n 1, 64, 1, 0, 0, 0, 0), (.iload_n 3, 65, 3, 0, 0, 0, 0), 
  (.iconst 1, 66, 0, 0, 0, 1, 0), (.isub, 67, 0, 0, 0, 0, 0), (.invokevirtual 76, 70, 104, 0, 2, 0, 0), am_dum, am_dum, (.aload_n 0, 71, 0, 0, 0, 0, 0), (.iload_n 2, 72, 2, 0, 0, 0, 0), (.iload 4, 74, 4, 0, 0, 0, 0), am_dum, 
  (.iconst 1, 75, 0, 0, 0, 1, 0), (.isub, 76, 0, 0, 0, 0, 0), (.invokevirtual 76, 79, 104, 0, 2, 0, 0), am_dum, am_dum, (.if_icmp .ne 7, 82, 86, 0, 0, 0, 0), am_dum, am_dum, (.iconst 0, 83, 0, 0, 0, 0, 0), 
  (.goto 4, 86, 87, 0, 0, 0, 0), am_dum, am_dum, (.iconst 1, 87, 0, 0, 0, 1, 0), (.iadd, 88, 0, 0, 0, 0, 0), (.istore 6, 90, 6, 0, 0, 0, 0), am_dum, (.aload_n 0, 91, 0, 0, 0, 0, 0), (.getfield 73, 94, 8, 32, 0, 0, 0), am_dum, 
  am_dum, (.bipush 13, 96, 0, 0, 0, 13, 0), am_dum, (.iload_n 3, 97, 3, 0, 0, 0, 0), (.imul, 98, 0, 0, 0, 0, 0), (.iload 4, 100, 4, 0, 0, 0, 0), am_dum, (.iadd, 101, 0, 0, 0, 0, 0), (.bipush 13, 103, 0, 0, 0, 13, 0), am_dum, 
  (.isub, 104, 0, 0, 0, 0, 0), (.iaload, 105, 0, 0, 0, 0, 0), (.iconst 1, 106, 0, 0, 0, 1, 0), (.iadd, 107, 0, 0, 0, 0, 0), (.istore 7, 109, 7, 0, 0, 0, 0), am_dum, (.aload_n 0, 110, 0, 0, 0, 0, 0), 
  (.getfield 73, 113, 8, 32, 0, 0, 0), am_dum, am_dum, (.bipush 13, 115, 0, 0, 0, 13, 0), am_dum, (.iload_n 3, 116, 3, 0, 0, 0, 0), (.imul, 117, 0, 0, 0, 0, 0), (.iload 4, 119, 4, 0, 0, 0, 0), am_dum, (.iadd, 120, 0, 0, 0, 0, 0), 
  (.iconst 1, 121, 0, 0, 0, 1, 0), (.isub, 122, 0, 0, 0, 0, 0), (.iaload, 123, 0, 0, 0, 0, 0), (.iconst 1, 124, 0, 0, 0, 1, 0), (.iadd, 125, 0, 0, 0, 0, 0), (.istore 8, 127, 8, 0, 0, 0, 0), am_dum, (.iload 6, 129, 6, 0, 0, 0, 0), 
  am_dum, (.iload 7, 131, 7, 0, 0, 0, 0), am_dum, (.if_icmp .ge 8, 134, 139, 0, 0, 0, 0), am_dum, am_dum, (.iload 6, 136, 6, 0, 0, 0, 0), am_dum, (.goto 5, 139, 141, 0, 0, 0, 0), am_dum, am_dum, (.iload 7, 141, 7, 0, 0, 0, 0), 
  am_dum, (.istore 5, 143, 5, 0, 0, 0, 0), am_dum, (.iload 5, 145, 5, 0, 0, 0, 0), am_dum, (.iload 8, 147, 8, 0, 0, 0, 0), am_dum, (.if_icmp .ge 8, 150, 155, 0, 0, 0, 0), am_dum, am_dum, (.iload 5, 152, 5, 0, 0, 0, 0), am_dum, 
  (.goto 5, 155, 157, 0, 0, 0, 0), am_dum, am_dum, (.iload 8, 157, 8, 0, 0, 0, 0), am_dum, (.istore 5, 159, 5, 0, 0, 0, 0), am_dum, (.aload_n 0, 160, 0, 0, 0, 0, 0), (.getfield 73, 163, 8, 32, 0, 0, 0), am_dum, am_dum, 
  (.bipush 13, 165, 0, 0, 0, 13, 0), am_dum, (.iload_n 3, 166, 3, 0, 0, 0, 0), (.imul, 167, 0, 0, 0, 0, 0), (.iload 4, 169, 4, 0, 0, 0, 0), am_dum, (.iadd, 170, 0, 0, 0, 0, 0), (.iload 5, 172, 5, 0, 0, 0, 0), am_dum, 
  (.iastore, 173, 0, 0, 0, 0, 0), (.iinc 4 1, 176, 4, 0, 0, 1, 0), am_dum, am_dum, (.goto (-161), 179, 15, 0, 0, 0, 0), am_dum, am_dum, (.iinc 3 1, 182, 3, 0, 0, 1, 0), am_dum, am_dum, (.goto (-180), 185, 2, 0, 0, 0, 0), am_dum, 
  am_dum, (.aload_n 0, 186, 0, 0, 0, 0, 0), (.getfield 73, 189, 8, 32, 0, 0, 0), am_dum, am_dum, (.bipush 13, 191, 0, 0, 0, 13, 0), am_dum, (.aload_n 0, 192, 0, 0, 0, 0, 0), (.getfield 14, 195, 8, 1, 0, 0, 0), am_dum, am_dum, 
  (.iload_n 1, 196, 1, 0, 0, 0, 0), (.iaload, 197, 0, 0, 0, 0, 0), (.imul, 198, 0, 0, 0, 0, 0), (.aload_n 0, 199, 0, 0, 0, 0, 0), (.getfield 14, 202, 8, 1, 0, 0, 0), am_dum, am_dum, (.iload_n 2, 203, 2, 0, 0, 0, 0), 
  (.iaload, 204, 0, 0, 0, 0, 0), (.iadd, 205, 0, 0, 0, 0, 0), (.iaload, 206, 0, 0, 0, 0, 0), (.ireturn, 207, 0, 0, 0, 0, 0)]
def k_Mo_isBefore : List am_e := [
  (.iconst 0, 1, 0, 0, 0, 0, 0), (.istore_n 3, 2, 3, 0, 0, 0, 0), (.iload_n 3, 3, 3, 0, 0, 0, 0), (.aload_n 0, 4, 0, 0, 0, 0, 0), (.getfield 14, 7, 8, 1, 0, 0, 0), am_dum, am_dum, (.iload_n 1, 8, 1, 0, 0, 0, 0), 
  (.iaload, 9, 0, 0, 0, 0, 0), (.if_icmp .ge 55, 12, 64, 0, 0, 0, 0), am_dum, am_dum, (.iload_n 3, 13, 3, 0, 0, 0, 0), (.aload_n 0, 14, 0, 0, 0, 0, 0), (.getfield 14, 17, 8, 1, 0, 0, 0), am_dum, am_dum, 
  (.iload_n 2, 18, 2, 0, 0, 0, 0), (.iaload, 19, 0, 0, 0, 0, 0), (.if_icmp .ge 45, 22, 64, 0, 0, 0, 0), am_dum, am_dum, (.aload_n 0, 23, 0, 0, 0, 0, 0), (.iload_n 1, 24, 1, 0, 0, 0, 0), (.iload_n 3, 25, 3, 0, 0, 0, 0), 
  (.invokevirtual 76, 28, 104, 0, 2, 0, 0), am_dum, am_dum, (.aload_n 0, 29, 0, 0, 0, 0, 0), (.iload_n 2, 30, 2, 0, 0, 0, 0), (.iload_n 3, 31, 3, 0, 0, 0, 0), (.invokevirtual 76, 34, 104, 0, 2, 0, 0), am_dum, am_dum, 
  (.if_icmp .eq 24, 37, 58, 0, 0, 0, 0), am_dum, am_dum, (.aload_n 0, 38, 0, 0, 0, 0, 0), (.iload_n 1, 39, 1, 0, 0, 0, 0), (.iload_n 3, 40, 3, 0, 0, 0, 0), (.invokevirtual 76, 43, 104, 0, 2, 0, 0), am_dum, am_dum, 
  (.aload_n 0, 44, 0, 0, 0, 0, 0), (.iload_n 2, 45, 2, 0, 0, 0, 0), (.iload_n 3, 46, 3, 0, 0, 0, 0), (.invokevirtual 76, 49, 104, 0, 2, 0, 0), am_dum, am_dum, (.if_icmp .ge 7, 52, 56, 0, 0, 0, 0), am_dum, am_dum, 
  (.iconst 1, 53, 0, 0, 0, 1, 0), (.goto 4, 56, 57, 0, 0, 0, 0), am_dum, am_dum, (.iconst 0, 57, 0, 0, 0, 0, 0), (.ireturn, 58, 1, 0, 0, 0, 0), (.iinc 3 1, 61, 3, 0, 0, 1, 0), am_dum, am_dum, (.goto (-59), 64, 2, 0, 0, 0, 0), 
  am_dum, am_dum, (.aload_n 0, 65, 0, 0, 0, 0, 0), (.getfield 14, 68, 8, 1, 0, 0, 0), am_dum, am_dum, (.iload_n 1, 69, 1, 0, 0, 0, 0), (.iaload, 70, 0, 0, 0, 0, 0), (.aload_n 0, 71, 0, 0, 0, 0, 0), 
  (.getfield 14, 74, 8, 1, 0, 0, 0), am_dum, am_dum, (.iload_n 2, 75, 2, 0, 0, 0, 0), (.iaload, 76, 0, 0, 0, 0, 0), (.if_icmp .ge 7, 79, 83, 0, 0, 0, 0), am_dum, am_dum, (.iconst 1, 80, 0, 0, 0, 1, 0), 
  (.goto 4, 83, 84, 0, 0, 0, 0), am_dum, am_dum, (.iconst 0, 84, 0, 0, 0, 0, 0), (.ireturn, 85, 1, 0, 0, 0, 0)]
def k_Mo_like : List am_e := [
  (.iload_n 1, 1, 1, 0, 0, 0, 0), (.invokestatic 102, 4, 112, 3, 1, 0, 0), am_dum, am_dum, (.ifCond .eq 12, 7, 16, 0, 0, 0, 0), am_dum, am_dum, (.iload_n 2, 8, 2, 0, 0, 0, 0), (.ifCond .lt 8, 11, 16, 0, 0, 0, 0), am_dum, am_dum, 
  (.iload_n 2, 12, 2, 0, 0, 0, 0), (.iconst 3, 13, 0, 0, 0, 3, 0), (.if_icmp .le 5, 16, 18, 0, 0, 0, 0), am_dum, am_dum, (.iconst (-1), 17, 0, 0, 0, -1, 0), (.ireturn, 18, 0, 0, 0, 0, 0), (.aload_n 0, 19, 0, 0, 0, 0, 0), 
  (.invokevirtual 106, 22, 111, 0, 0, 0, 0), am_dum, am_dum, (.aload_n 0, 23, 0, 0, 0, 0, 0), (.iconst 0, 24, 0, 0, 0, 0, 0), (.putfield 222, 27, 8, 29, 0, 0, 0), am_dum, am_dum, (.aload_n 0, 28, 0, 0, 0, 0, 0), 
  (.getfield 88, 31, 8, 14, 0, 0, 0), am_dum, am_dum, (.ifCond .ne 6, 34, 37, 0, 0, 0, 0), am_dum, am_dum, (.bipush (-2), 36, 0, 0, 0, -2, 0), am_dum, (.ireturn, 37, 0, 0, 0, 0, 0), (.aload_n 0, 38, 0, 0, 0, 0, 0), 
  (.sipush 3968, 41, 0, 0, 0, 3968, 0), am_dum, am_dum, (.sipush 6032, 44, 0, 0, 0, 6032, 0), am_dum, am_dum, (.invokevirtual 112, 47, 108, 0, 2, 0, 0), am_dum, am_dum, (.iconst 0, 48, 0, 0, 0, 0, 0), 
  (.istore_n 3, 49, 3, 0, 0, 0, 0), (.iload_n 3, 50, 3, 0, 0, 0, 0), (.aload_n 0, 51, 0, 0, 0, 0, 0), (.getfield 131, 54, 8, 9, 0, 0, 0), am_dum, am_dum, (.if_icmp .ge 214, 57, 268, 0, 0, 0, 0), am_dum, am_dum, 
  (.iconst 0, 58, 0, 0, 0, 0, 0), (.istore 4, 60, 4, 0, 0, 0, 0), am_dum, (.iload 4, 62, 4, 0, 0, 0, 0), am_dum, (.aload_n 0, 63, 0, 0, 0, 0, 0), (.getfield 27, 66, 8, 6, 0, 0, 0), am_dum, am_dum, (.iload_n 3, 67, 3, 0, 0, 0, 0), 
  (.iaload, 68, 0, 0, 0, 0, 0), (.if_icmp .ge 194, 71, 262, 0, 0, 0, 0), am_dum, am_dum, (.aload_n 0, 72, 0, 0, 0, 0, 0), (.getfield 21, 75, 8, 4, 0, 0, 0), am_dum, am_dum, (.iload_n 3, 76, 3, 0, 0, 0, 0), 
  (.iaload, 77, 0, 0, 0, 0, 0), (.iload_n 1, 78, 1, 0, 0, 0, 0), (.if_icmp .ne 184, 81, 262, 0, 0, 0, 0), am_dum, am_dum, (.bipush 48, 83, 0, 0, 0, 48, 0), am_dum, (.iload_n 3, 84, 3, 0, 0, 0, 0), (.imul, 85, 0, 0, 0, 0, 0), 
  (.iload 4, 87, 4, 0, 0, 0, 0), am_dum, (.iadd, 88, 0, 0, 0, 0, 0), (.istore 5, 90, 5, 0, 0, 0, 0), am_dum, (.aload_n 0, 91, 0, 0, 0, 0, 0), (.iload 5, 93, 5, 0, 0, 0, 0), am_dum, (.sipush 6032, 96, 0, 0, 0, 6032, 0), am_dum, 
  am_dum, (.invokevirtual 225, 99, 149, 0, 2, 0, 0), am_dum, am_dum, (.istore 6, 101, 6, 0, 0, 0, 0), am_dum, (.iload 6, 103, 6, 0, 0, 0, 0), am_dum, (.iload_n 2, 104, 2, 0, 0, 0, 0), (.if_icmp .gt 152, 107, 256, 0, 0, 0, 0), 
  am_dum, am_dum, (.aload_n 0, 108, 0, 0, 0, 0, 0), (.iload_n 1, 109, 1, 0, 0, 0, 0), (.iload 5, 111, 5, 0, 0, 0, 0), am_dum, (.invokevirtual 109, 114, 113, 0, 2, 0, 0), am_dum, am_dum, (.ifCond .ne 142, 117, 256, 0, 0, 0, 0), 
  am_dum, am_dum, (.aload_n 0, 118, 0, 0, 0, 0, 0), (.iload 5, 120, 5, 0, 0, 0, 0), am_dum, (.invokevirtual 228, 123, 152, 0, 1, 0, 0), am_dum, am_dum, (.ifCond .eq 6, 126, 129, 0, 0, 0, 0), am_dum, am_dum, 
  (.goto 130, 129, 256, 0, 0, 0, 0), am_dum, am_dum, (.aload_n 0, 130, 0, 0, 0, 0, 0), (.getfield 222, 133, 8, 29, 0, 0, 0), am_dum, am_dum, (.istore 7, 135, 7, 0, 0, 0, 0), am_dum, (.iload 7, 137, 7, 0, 0, 0, 0), am_dum, 
  (.ifCond .le 88, 140, 225, 0, 0, 0, 0), am_dum, am_dum, (.aload_n 0, 141, 0, 0, 0, 0, 0), (.getfield 67, 144, 8, 28, 0, 0, 0), am_dum, am_dum, (.iload 7, 146, 7, 0, 0, 0, 0), am_dum, (.iconst 1, 147, 0, 0, 0, 1, 0), 
  (.isub, 148, 0, 0, 0, 0, 0), (.iaload, 149, 0, 0, 0, 0, 0), (.iload 6, 151, 6, 0, 0, 0, 0), am_dum, (.if_icmp .gt 34, 154, 185, 0, 0, 0, 0), am_dum, am_dum, (.aload_n 0, 155, 0, 0, 0, 0, 0), (.getfield 67, 158, 8, 28, 0, 0, 0), 
  am_dum, am_dum, (.iload 7, 160, 7, 0, 0, 0, 0), am_dum, (.iconst 1, 161, 0, 0, 0, 1, 0), (.isub, 162, 0, 0, 0, 0, 0), (.iaload, 163, 0, 0, 0, 0, 0), (.iload 6, 165, 6, 0, 0, 0, 0), am_dum, (.if_icmp .ne 60, 168, 225, 0, 0, 0, 0), 
  am_dum, am_dum, (.aload_n 0, 169, 0, 0, 0, 0, 0), (.iload 5, 171, 5, 0, 0, 0, 0), am_dum, (.sipush 4112, 174, 0, 0, 0, 4112, 0), am_dum, am_dum, (.iload 7, 176, 7, 0, 0, 0, 0), am_dum, (.iadd, 177, 0, 0, 0, 0, 0), 
  (.iconst 1, 178, 0, 0, 0, 1, 0), (.isub, 179, 0, 0, 0, 0, 0), (.invokevirtual 231, 182, 150, 0, 2, 0, 0), am_dum, am_dum, (.ifCond .eq 43, 185, 225, 0, 0, 0, 0), am_dum, am_dum, (.aload_n 0, 186, 0, 0, 0, 0, 0), 
  (.getfield 67, 189, 8, 28, 0, 0, 0), am_dum, am_dum, (.iload 7, 191, 7, 0, 0, 0, 0), am_dum, (.aload_n 0, 192, 0, 0, 0, 0, 0), (.getfield 67, 195, 8, 28, 0, 0, 0), am_dum, am_dum, (.iload 7, 197, 7, 0, 0, 0, 0), am_dum, 
  (.iconst 1, 198, 0, 0, 0, 1, 0), (.isub, 199, 0, 0, 0, 0, 0), (.iaload, 200, 0, 0, 0, 0, 0), (.iastore, 201, 0, 0, 0, 0, 0), (.aload_n 0, 202, 0, 0, 0, 0, 0), (.sipush 4112, 205, 0, 0, 0, 4112, 0), am_dum, am_dum, 
  (.iload 7, 207, 7, 0, 0, 0, 0), am_dum, (.iadd, 208, 0, 0, 0, 0, 0), (.iconst 1, 209, 0, 0, 0, 1, 0), (.isub, 210, 0, 0, 0, 0, 0), (.sipush 4112, 213, 0, 0, 0, 4112, 0), am_dum, am_dum, (.iload 7, 215, 7, 0, 0, 0, 0), am_dum, 
  (.iadd, 216, 0, 0, 0, 0, 0), (.invokevirtual 112, 219, 108, 0, 2, 0, 0), am_dum, am_dum, (.iinc 7 (-1), 222, 7, 0, 0, -1, 0), am_dum, am_dum, (.goto (-87), 225, 135, 0, 0, 0, 0), am_dum, am_dum, (.aload_n 0, 226, 0, 0, 0, 0, 0), 
  (.getfield 67, 229, 8, 28, 0, 0, 0), am_dum, am_dum, (.iload 7, 231, 7, 0, 0, 0, 0), am_dum, (.iload 6, 233, 6, 0, 0, 0, 0), am_dum, (.iastore, 234, 0, 0, 0, 0, 0), (.aload_n 0, 235, 0, 0, 0, 0, 0), 
  (.iload 5, 237, 5, 0, 0, 0, 0), am_dum, (.sipush 4112, 240, 0, 0, 0, 4112, 0), am_dum, am_dum, (.iload 7, 242, 7, 0, 0, 0, 0), am_dum, (.iadd, 243, 0, 0, 0, 0, 0), (.invokevirtual 112, 246, 108, 0, 2, 0, 0), am_dum, am_dum, 
  (.aload_n 0, 247, 0, 0, 0, 0, 0), (.dup, 248, 0, 0, 0, 0, 0), (.getfield 222, 251, 8, 29, 0, 0, 0), am_dum, am_dum, (.iconst 1, 252, 0, 0, 0, 1, 0), (.iadd, 253, 0, 0, 0, 0, 0), (.putfield 222, 256, 8, 29, 0, 0, 0), am_dum, 
  am_dum, (.iinc 4 1, 259, 4, 0, 0, 1, 0), am_dum, am_dum, (.goto (-199), 262, 60, 0, 0, 0, 0), am_dum, am_dum, (.iinc 3 1, 265, 3, 0, 0, 1, 0), am_dum, am_dum, (.goto (-216), 268, 49, 0, 0, 0, 0), am_dum, am_dum, 
  (.aload_n 0, 269, 0, 0, 0, 0, 0), (.getfield 222, 272, 8, 29, 0, 0, 0), am_dum, am_dum, (.ireturn, 273, 0, 0, 0, 0, 0)]
def k_Mo_isLiked : List am_e := [
  (.iconst 0, 1, 0, 0, 0, 0, 0), (.istore_n 2, 2, 2, 0, 0, 0, 0), (.iload_n 2, 3, 2, 0, 0, 0, 0), (.aload_n 0, 4, 0, 0, 0, 0, 0), (.getfield 222, 7, 8, 29, 0, 0, 0), am_dum, am_dum, (.if_icmp .ge 24, 10, 31, 0, 0, 0, 0), am_dum, 
  am_dum, (.aload_n 0, 11, 0, 0, 0, 0, 0), (.sipush 4112, 14, 0, 0, 0, 4112, 0), am_dum, am_dum, (.iload_n 2, 15, 2, 0, 0, 0, 0), (.iadd, 16, 0, 0, 0, 0, 0), (.iload_n 1, 17, 1, 0, 0, 0, 0), 
  (.invokevirtual 98, 20, 105, 0, 2, 0, 0), am_dum, am_dum, (.ifCond .eq 5, 23, 25, 0, 0, 0, 0), am_dum, am_dum, (.iconst 1, 24, 0, 0, 0, 1, 0), (.ireturn, 25, 1, 0, 0, 0, 0), (.iinc 2 1, 28, 2, 0, 0, 1, 0), am_dum, am_dum, 
  (.goto (-26), 31, 2, 0, 0, 0, 0), am_dum, am_dum, (.iconst 0, 32, 0, 0, 0, 0, 0), (.ireturn, 33, 1, 0, 0, 0, 0)]
def k_Mo_word : List am_e := [
  (.iload_n 1, 1, 1, 0, 0, 0, 0), (.ifCond .lt 23, 4, 24, 0, 0, 0, 0), am_dum, am_dum, (.iload_n 1, 5, 1, 0, 0, 0, 0), (.aload_n 0, 6, 0, 0, 0, 0, 0), (.getfield 222, 9, 8, 29, 0, 0, 0), am_dum, am_dum, 
  (.if_icmp .ge 15, 12, 24, 0, 0, 0, 0), am_dum, am_dum, (.aload_n 0, 13, 0, 0, 0, 0, 0), (.sipush 4112, 16, 0, 0, 0, 4112, 0), am_dum, am_dum, (.iload_n 1, 17, 1, 0, 0, 0, 0), (.iadd, 18, 0, 0, 0, 0, 0), 
  (.invokevirtual 128, 21, 119, 0, 1, 0, 0), am_dum, am_dum, (.goto 5, 24, 26, 0, 0, 0, 0), am_dum, am_dum, (.bipush (-2), 26, 0, 0, 0, -2, 0), am_dum, (.ireturn, 27, 0, 0, 0, 0, 0)]
def k_Law_law : List am_e := [
  (.new 7, 3, 0, 0, 0, 0, 0), am_dum, am_dum, (.dup, 4, 0, 0, 0, 0, 0), (.invokespecial 9, 7, 84, 1, 0, 0, 0), am_dum, am_dum, (.astore_n 1, 8, 1, 0, 0, 0, 0), (.new 10, 11, 8, 0, 0, 0, 0), am_dum, am_dum, 
  (.dup, 12, 0, 0, 0, 0, 0), (.invokespecial 12, 15, 103, 1, 0, 0, 0), am_dum, am_dum, (.astore_n 2, 16, 2, 0, 0, 0, 0), (.iconst 0, 17, 0, 0, 0, 0, 0), (.istore_n 3, 18, 3, 0, 0, 0, 0), (.iload_n 3, 19, 3, 0, 0, 0, 0), 
  (.aload_n 0, 20, 0, 0, 0, 0, 0), (.arraylength, 21, 0, 0, 0, 0, 0), (.iconst 4, 22, 0, 0, 0, 4, 0), (.isub, 23, 0, 0, 0, 0, 0), (.if_icmp .gt 517, 26, 540, 0, 0, 0, 0), am_dum, am_dum, (.aload_n 0, 27, 0, 0, 0, 0, 0), 
  (.iload_n 3, 28, 3, 0, 0, 0, 0), (.iaload, 29, 0, 0, 0, 0, 0), (.bipush 15, 31, 0, 0, 0, 15, 0), am_dum, (.iand, 32, 0, 0, 0, 0, 0), 
  (.tableswitch 502 0 14 #[76, 139, 172, 195, 218, 241, 264, 297, 320, 344, 377, 400, 423, 466, 479], 108, 534, 32, 0, 0, 0), am_dum, am_dum, am_dum, am_dum, am_dum, am_dum, am_dum, am_dum, am_dum, am_dum, am_dum, am_dum, am_dum, 
  am_dum, am_dum, am_dum, am_dum, am_dum, am_dum, am_dum, am_dum, am_dum, am_dum, am_dum, am_dum, am_dum, am_dum, am_dum, am_dum, am_dum, am_dum, am_dum, am_dum, am_dum, am_dum, am_dum, am_dum, am_dum, am_dum, am_dum, am_dum, 
  am_dum, am_dum, am_dum, am_dum, am_dum, am_dum, am_dum, am_dum, am_dum, am_dum, am_dum, am_dum, am_dum, am_dum, am_dum, am_dum, am_dum, am_dum, am_dum, am_dum, am_dum, am_dum, am_dum, am_dum, am_dum, am_dum, am_dum, am_dum, 
  am_dum, am_dum, am_dum, am_dum, am_dum, am_dum, (.aload_n 1, 109, 1, 0, 0, 0, 0), (.aload_n 0, 110, 0, 0, 0, 0, 0), (.iload_n 3, 111, 3, 0, 0, 0, 0), (.iconst 1, 112, 0, 0, 0, 1, 0), (.iadd, 113, 0, 0, 0, 0, 0), 
  (.iaload, 114, 0, 0, 0, 0, 0), (.i2l, 115, 0, 0, 0, 0, 0), (.bipush 32, 117, 0, 0, 0, 32, 0), am_dum, (.lshl, 118, 0, 0, 0, 0, 0), (.aload_n 0, 119, 0, 0, 0, 0, 0), (.iload_n 3, 120, 3, 0, 0, 0, 0), 
  (.iconst 2, 121, 0, 0, 0, 2, 0), (.iadd, 122, 0, 0, 0, 0, 0), (.iaload, 123, 0, 0, 0, 0, 0), (.i2l, 124, 0, 0, 0, 0, 0), (.ldc2_w 13, 127, 0, 0, 0, 0, 4294967295), am_dum, am_dum, (.land, 128, 0, 0, 0, 0, 0), 
  (.lor, 129, 0, 0, 0, 0, 0), (.aload_n 0, 130, 0, 0, 0, 0, 0), (.iload_n 3, 131, 3, 0, 0, 0, 0), (.iconst 3, 132, 0, 0, 0, 3, 0), (.iadd, 133, 0, 0, 0, 0, 0), (.iaload, 134, 0, 0, 0, 0, 0), 
  (.invokevirtual 15, 137, 85, 0, 2, 0, 0), am_dum, am_dum, (.aload_n 2, 138, 2, 0, 0, 0, 0), (.aload_n 0, 139, 0, 0, 0, 0, 0), (.iload_n 3, 140, 3, 0, 0, 0, 0), (.iconst 1, 141, 0, 0, 0, 1, 0), (.iadd, 142, 0, 0, 0, 0, 0), 
  (.iaload, 143, 0, 0, 0, 0, 0), (.i2l, 144, 0, 0, 0, 0, 0), (.bipush 32, 146, 0, 0, 0, 32, 0), am_dum, (.lshl, 147, 0, 0, 0, 0, 0), (.aload_n 0, 148, 0, 0, 0, 0, 0), (.iload_n 3, 149, 3, 0, 0, 0, 0), 
  (.iconst 2, 150, 0, 0, 0, 2, 0), (.iadd, 151, 0, 0, 0, 0, 0), (.iaload, 152, 0, 0, 0, 0, 0), (.i2l, 153, 0, 0, 0, 0, 0), (.ldc2_w 13, 156, 0, 0, 0, 0, 4294967295), am_dum, am_dum, (.land, 157, 0, 0, 0, 0, 0), 
  (.lor, 158, 0, 0, 0, 0, 0), (.aload_n 0, 159, 0, 0, 0, 0, 0), (.iload_n 3, 160, 3, 0, 0, 0, 0), (.iconst 3, 161, 0, 0, 0, 3, 0), (.iadd, 162, 0, 0, 0, 0, 0), (.iaload, 163, 0, 0, 0, 0, 0), 
  (.invokevirtual 19, 166, 110, 0, 2, 0, 0), am_dum, am_dum, (.if_icmp .eq 368, 169, 534, 0, 0, 0, 0), am_dum, am_dum, (.iconst 0, 170, 0, 0, 0, 0, 0), (.ireturn, 171, 1, 0, 0, 0, 0), (.aload_n 1, 172, 1, 0, 0, 0, 0), 
  (.aload_n 0, 173, 0, 0, 0, 0, 0), (.iload_n 3, 174, 3, 0, 0, 0, 0), (.iconst 1, 175, 0, 0, 0, 1, 0), (.iadd, 176, 0, 0, 0, 0, 0), (.iaload, 177, 0, 0, 0, 0, 0), (.aload_n 0, 178, 0, 0, 0, 0, 0), (.iload_n 3, 179, 3, 0, 0, 0, 0), 
  (.iconst 2, 180, 0, 0, 0, 2, 0), (.iadd, 181, 0, 0, 0, 0, 0), (.iaload, 182, 0, 0, 0, 0, 0), (.invokevirtual 20, 185, 86, 0, 2, 0, 0), am_dum, am_dum, (.aload_n 2, 186, 2, 0, 0, 0, 0), (.aload_n 0, 187, 0, 0, 0, 0, 0), 
  (.iload_n 3, 188, 3, 0, 0, 0, 0), (.iconst 1, 189, 0, 0, 0, 1, 0), (.iadd, 190, 0, 0, 0, 0, 0), (.iaload, 191, 0, 0, 0, 0, 0), (.aload_n 0, 192, 0, 0, 0, 0, 0), (.iload_n 3, 193, 3, 0, 0, 0, 0), (.iconst 2, 194, 0, 0, 0, 2, 0), 
  (.iadd, 195, 0, 0, 0, 0, 0), (.iaload, 196, 0, 0, 0, 0, 0), (.invokevirtual 24, 199, 122, 0, 2, 0, 0), am_dum, am_dum, (.if_icmp .eq 335, 202, 534, 0, 0, 0, 0), am_dum, am_dum, (.iconst 0, 203, 0, 0, 0, 0, 0), 
  (.ireturn, 204, 1, 0, 0, 0, 0), (.aload_n 1, 205, 1, 0, 0, 0, 0), (.aload_n 0, 206, 0, 0, 0, 0, 0), (.iload_n 3, 207, 3, 0, 0, 0, 0), (.iconst 1, 208, 0, 0, 0, 1, 0), (.iadd, 209, 0, 0, 0, 0, 0), (.iaload, 210, 0, 0, 0, 0, 0), 
  (.invokevirtual 25, 213, 87, 0, 1, 0, 0), am_dum, am_dum, (.aload_n 2, 214, 2, 0, 0, 0, 0), (.aload_n 0, 215, 0, 0, 0, 0, 0), (.iload_n 3, 216, 3, 0, 0, 0, 0), (.iconst 1, 217, 0, 0, 0, 1, 0), (.iadd, 218, 0, 0, 0, 0, 0), 
  (.iaload, 219, 0, 0, 0, 0, 0), (.invokevirtual 29, 222, 125, 0, 1, 0, 0), am_dum, am_dum, (.if_icmp .eq 312, 225, 534, 0, 0, 0, 0), am_dum, am_dum, (.iconst 0, 226, 0, 0, 0, 0, 0), (.ireturn, 227, 1, 0, 0, 0, 0), 
  (.aload_n 1, 228, 1, 0, 0, 0, 0), (.aload_n 0, 229, 0, 0, 0, 0, 0), (.iload_n 3, 230, 3, 0, 0, 0, 0), (.iconst 1, 231, 0, 0, 0, 1, 0), (.iadd, 232, 0, 0, 0, 0, 0), (.iaload, 233, 0, 0, 0, 0, 0), 
  (.invokevirtual 30, 236, 88, 0, 1, 0, 0), am_dum, am_dum, (.aload_n 2, 237, 2, 0, 0, 0, 0), (.aload_n 0, 238, 0, 0, 0, 0, 0), (.iload_n 3, 239, 3, 0, 0, 0, 0), (.iconst 1, 240, 0, 0, 0, 1, 0), (.iadd, 241, 0, 0, 0, 0, 0), 
  (.iaload, 242, 0, 0, 0, 0, 0), (.invokevirtual 33, 245, 114, 0, 1, 0, 0), am_dum, am_dum, (.if_icmp .eq 289, 248, 534, 0, 0, 0, 0), am_dum, am_dum, (.iconst 0, 249, 0, 0, 0, 0, 0), (.ireturn, 250, 1, 0, 0, 0, 0), 
  (.aload_n 1, 251, 1, 0, 0, 0, 0), (.aload_n 0, 252, 0, 0, 0, 0, 0), (.iload_n 3, 253, 3, 0, 0, 0, 0), (.iconst 1, 254, 0, 0, 0, 1, 0), (.iadd, 255, 0, 0, 0, 0, 0), (.iaload, 256, 0, 0, 0, 0, 0), 
  (.invokevirtual 34, 259, 89, 0, 1, 0, 0), am_dum, am_dum, (.aload_n 2, 260, 2, 0, 0, 0, 0), (.aload_n 0, 261, 0, 0, 0, 0, 0), (.iload_n 3, 262, 3, 0, 0, 0, 0), (.iconst 1, 263, 0, 0, 0, 1, 0), (.iadd, 264, 0, 0, 0, 0, 0), 
  (.iaload, 265, 0, 0, 0, 0, 0), (.invokevirtual 37, 268, 116, 0, 1, 0, 0), am_dum, am_dum, (.if_icmp .eq 266, 271, 534, 0, 0, 0, 0), am_dum, am_dum, (.iconst 0, 272, 0, 0, 0, 0, 0), (.ireturn, 273, 1, 0, 0, 0, 0), 
  (.aload_n 1, 274, 1, 0, 0, 0, 0), (.aload_n 0, 275, 0, 0, 0, 0, 0), (.iload_n 3, 276, 3, 0, 0, 0, 0), (.iconst 1, 277, 0, 0, 0, 1, 0), (.iadd, 278, 0, 0, 0, 0, 0), (.iaload, 279, 0, 0, 0, 0, 0), 
  (.invokevirtual 38, 282, 90, 0, 1, 0, 0), am_dum, am_dum, (.aload_n 2, 283, 2, 0, 0, 0, 0), (.aload_n 0, 284, 0, 0, 0, 0, 0), (.iload_n 3, 285, 3, 0, 0, 0, 0), (.iconst 1, 286, 0, 0, 0, 1, 0), (.iadd, 287, 0, 0, 0, 0, 0), 
  (.iaload, 288, 0, 0, 0, 0, 0), (.invokevirtual 41, 291, 120, 0, 1, 0, 0), am_dum, am_dum, (.if_icmp .eq 243, 294, 534, 0, 0, 0, 0), am_dum, am_dum, (.iconst 0, 295, 0, 0, 0, 0, 0), (.ireturn, 296, 1, 0, 0, 0, 0), 
  (.aload_n 1, 297, 1, 0, 0, 0, 0), (.aload_n 0, 298, 0, 0, 0, 0, 0), (.iload_n 3, 299, 3, 0, 0, 0, 0), (.iconst 1, 300, 0, 0, 0, 1, 0), (.iadd, 301, 0, 0, 0, 0, 0), (.iaload, 302, 0, 0, 0, 0, 0), (.aload_n 0, 303, 0, 0, 0, 0, 0), 
  (.iload_n 3, 304, 3, 0, 0, 0, 0), (.iconst 2, 305, 0, 0, 0, 2, 0), (.iadd, 306, 0, 0, 0, 0, 0), (.iaload, 307, 0, 0, 0, 0, 0), (.invokevirtual 42, 310, 91, 0, 2, 0, 0), am_dum, am_dum, (.aload_n 2, 311, 2, 0, 0, 0, 0), 
  (.aload_n 0, 312, 0, 0, 0, 0, 0), (.iload_n 3, 313, 3, 0, 0, 0, 0), (.iconst 1, 314, 0, 0, 0, 1, 0), (.iadd, 315, 0, 0, 0, 0, 0), (.iaload, 316, 0, 0, 0, 0, 0), (.aload_n 0, 317, 0, 0, 0, 0, 0), (.iload_n 3, 318, 3, 0, 0, 0, 0), 
  (.iconst 2, 319, 0, 0, 0, 2, 0), (.iadd, 320, 0, 0, 0, 0, 0), (.iaload, 321, 0, 0, 0, 0, 0), (.invokevirtual 45, 324, 146, 0, 2, 0, 0), am_dum, am_dum, (.if_icmp .eq 210, 327, 534, 0, 0, 0, 0), am_dum, am_dum, 
  (.iconst 0, 328, 0, 0, 0, 0, 0), (.ireturn, 329, 1, 0, 0, 0, 0), (.aload_n 1, 330, 1, 0, 0, 0, 0), (.aload_n 0, 331, 0, 0, 0, 0, 0), (.iload_n 3, 332, 3, 0, 0, 0, 0), (.iconst 1, 333, 0, 0, 0, 1, 0), (.iadd, 334, 0, 0, 0, 0, 0), 
  (.iaload, 335, 0, 0, 0, 0, 0), (.invokevirtual 46, 338, 92, 0, 1, 0, 0), am_dum, am_dum, (.aload_n 2, 339, 2, 0, 0, 0, 0), (.aload_n 0, 340, 0, 0, 0, 0, 0), (.iload_n 3, 341, 3, 0, 0, 0, 0), (.iconst 1, 342, 0, 0, 0, 1, 0), 
  (.iadd, 343, 0, 0, 0, 0, 0), (.iaload, 344, 0, 0, 0, 0, 0), (.invokevirtual 49, 347, 147, 0, 1, 0, 0), am_dum, am_dum, (.if_icmp .eq 187, 350, 534, 0, 0, 0, 0), am_dum, am_dum, (.iconst 0, 351, 0, 0, 0, 0, 0), 
  (.ireturn, 352, 1, 0, 0, 0, 0), (.aload_n 1, 353, 1, 0, 0, 0, 0), (.aload_n 0, 354, 0, 0, 0, 0, 0), (.iload_n 3, 355, 3, 0, 0, 0, 0), (.iconst 1, 356, 0, 0, 0, 1, 0), (.iadd, 357, 0, 0, 0, 0, 0), (.iaload, 358, 0, 0, 0, 0, 0), 
  (.invokevirtual 50, 361, 93, 0, 1, 0, 0), am_dum, am_dum, (.aload_n 2, 362, 2, 0, 0, 0, 0), (.aload_n 0, 363, 0, 0, 0, 0, 0), (.iload_n 3, 364, 3, 0, 0, 0, 0), (.iconst 1, 365, 0, 0, 0, 1, 0), (.iadd, 366, 0, 0, 0, 0, 0), 
  (.iaload, 367, 0, 0, 0, 0, 0), (.invokevirtual 54, 370, 148, 0, 1, 0, 0), am_dum, am_dum, (.lcmp, 371, 0, 0, 0, 0, 0), (.ifCond .eq 163, 374, 534, 0, 0, 0, 0), am_dum, am_dum, (.iconst 0, 375, 0, 0, 0, 0, 0), 
  (.ireturn, 376, 1, 0, 0, 0, 0), (.aload_n 1, 377, 1, 0, 0, 0, 0), (.aload_n 0, 378, 0, 0, 0, 0, 0), (.iload_n 3, 379, 3, 0, 0, 0, 0), (.iconst 1, 380, 0, 0, 0, 1, 0), (.iadd, 381, 0, 0, 0, 0, 0), (.iaload, 382, 0, 0, 0, 0, 0), 
  (.aload_n 0, 383, 0, 0, 0, 0, 0), (.iload_n 3, 384, 3, 0, 0, 0, 0), (.iconst 2, 385, 0, 0, 0, 2, 0), (.iadd, 386, 0, 0, 0, 0, 0), (.iaload, 387, 0, 0, 0, 0, 0), (.invokevirtual 55, 390, 94, 0, 2, 0, 0), am_dum, am_dum, 
  (.aload_n 2, 391, 2, 0, 0, 0, 0), (.aload_n 0, 392, 0, 0, 0, 0, 0), (.iload_n 3, 393, 3, 0, 0, 0, 0), (.iconst 1, 394, 0, 0, 0, 1, 0), (.iadd, 395, 0, 0, 0, 0, 0), (.iaload, 396, 0, 0, 0, 0, 0), (.aload_n 0, 397, 0, 0, 0, 0, 0), 
  (.iload_n 3, 398, 3, 0, 0, 0, 0), (.iconst 2, 399, 0, 0, 0, 2, 0), (.iadd, 400, 0, 0, 0, 0, 0), (.iaload, 401, 0, 0, 0, 0, 0), (.invokevirtual 58, 404, 151, 0, 2, 0, 0), am_dum, am_dum, (.if_icmp .eq 130, 407, 534, 0, 0, 0, 0), 
  am_dum, am_dum, (.iconst 0, 408, 0, 0, 0, 0, 0), (.ireturn, 409, 1, 0, 0, 0, 0), (.aload_n 1, 410, 1, 0, 0, 0, 0), (.aload_n 0, 411, 0, 0, 0, 0, 0), (.iload_n 3, 412, 3, 0, 0, 0, 0), (.iconst 1, 413, 0, 0, 0, 1, 0), 
  (.iadd, 414, 0, 0, 0, 0, 0), (.iaload, 415, 0, 0, 0, 0, 0), (.invokevirtual 59, 418, 95, 0, 1, 0, 0), am_dum, am_dum, (.aload_n 2, 419, 2, 0, 0, 0, 0), (.aload_n 0, 420, 0, 0, 0, 0, 0), (.iload_n 3, 421, 3, 0, 0, 0, 0), 
  (.iconst 1, 422, 0, 0, 0, 1, 0), (.iadd, 423, 0, 0, 0, 0, 0), (.iaload, 424, 0, 0, 0, 0, 0), (.invokevirtual 62, 427, 153, 0, 1, 0, 0), am_dum, am_dum, (.if_icmp .eq 107, 430, 534, 0, 0, 0, 0), am_dum, am_dum, 
  (.iconst 0, 431, 0, 0, 0, 0, 0), (.ireturn, 432, 1, 0, 0, 0, 0), (.aload_n 1, 433, 1, 0, 0, 0, 0), (.aload_n 0, 434, 0, 0, 0, 0, 0), (.iload_n 3, 435, 3, 0, 0, 0, 0), (.iconst 1, 436, 0, 0, 0, 1, 0), (.iadd, 437, 0, 0, 0, 0, 0), 
  (.iaload, 438, 0, 0, 0, 0, 0), (.invokevirtual 63, 441, 96, 0, 1, 0, 0), am_dum, am_dum, (.aload_n 2, 442, 2, 0, 0, 0, 0), (.aload_n 0, 443, 0, 0, 0, 0, 0), (.iload_n 3, 444, 3, 0, 0, 0, 0), (.iconst 1, 445, 0, 0, 0, 1, 0), 
  (.iadd, 446, 0, 0, 0, 0, 0), (.iaload, 447, 0, 0, 0, 0, 0), (.invokevirtual 66, 450, 121, 0, 1, 0, 0), am_dum, am_dum, (.if_icmp .eq 84, 453, 534, 0, 0, 0, 0), am_dum, am_dum, (.iconst 0, 454, 0, 0, 0, 0, 0), 
  (.ireturn, 455, 1, 0, 0, 0, 0), (.aload_n 1, 456, 1, 0, 0, 0, 0), (.aload_n 0, 457, 0, 0, 0, 0, 0), (.iload_n 3, 458, 3, 0, 0, 0, 0), (.iconst 1, 459, 0, 0, 0, 1, 0), (.iadd, 460, 0, 0, 0, 0, 0), (.iaload, 461, 0, 0, 0, 0, 0), 
  (.aload_n 0, 462, 0, 0, 0, 0, 0), (.iload_n 3, 463, 3, 0, 0, 0, 0), (.iconst 2, 464, 0, 0, 0, 2, 0), (.iadd, 465, 0, 0, 0, 0, 0), (.iaload, 466, 0, 0, 0, 0, 0), (.aload_n 0, 467, 0, 0, 0, 0, 0), (.iload_n 3, 468, 3, 0, 0, 0, 0), 
  (.iconst 3, 469, 0, 0, 0, 3, 0), (.iadd, 470, 0, 0, 0, 0, 0), (.iaload, 471, 0, 0, 0, 0, 0), (.invokevirtual 67, 474, 97, 0, 3, 0, 0), am_dum, am_dum, (.aload_n 2, 475, 2, 0, 0, 0, 0), (.aload_n 0, 476, 0, 0, 0, 0, 0), 
  (.iload_n 3, 477, 3, 0, 0, 0, 0), (.iconst 1, 478, 0, 0, 0, 1, 0), (.iadd, 479, 0, 0, 0, 0, 0), (.iaload, 480, 0, 0, 0, 0, 0), (.aload_n 0, 481, 0, 0, 0, 0, 0), (.iload_n 3, 482, 3, 0, 0, 0, 0), (.iconst 2, 483, 0, 0, 0, 2, 0), 
  (.iadd, 484, 0, 0, 0, 0, 0), (.iaload, 485, 0, 0, 0, 0, 0), (.aload_n 0, 486, 0, 0, 0, 0, 0), (.iload_n 3, 487, 3, 0, 0, 0, 0), (.iconst 3, 488, 0, 0, 0, 3, 0), (.iadd, 489, 0, 0, 0, 0, 0), (.iaload, 490, 0, 0, 0, 0, 0), 
  (.invokevirtual 71, 493, 127, 0, 3, 0, 0), am_dum, am_dum, (.if_icmp .eq 41, 496, 534, 0, 0, 0, 0), am_dum, am_dum, (.iconst 0, 497, 0, 0, 0, 0, 0), (.ireturn, 498, 1, 0, 0, 0, 0), (.aload_n 1, 499, 1, 0, 0, 0, 0), 
  (.invokevirtual 72, 502, 98, 0, 0, 0, 0), am_dum, am_dum, (.aload_n 2, 503, 2, 0, 0, 0, 0), (.invokevirtual 76, 506, 126, 0, 0, 0, 0), am_dum, am_dum, (.if_icmp .eq 28, 509, 534, 0, 0, 0, 0), am_dum, am_dum, 
  (.iconst 0, 510, 0, 0, 0, 0, 0), (.ireturn, 511, 1, 0, 0, 0, 0), (.aload_n 1, 512, 1, 0, 0, 0, 0), (.aload_n 0, 513, 0, 0, 0, 0, 0), (.iload_n 3, 514, 3, 0, 0, 0, 0), (.iconst 1, 515, 0, 0, 0, 1, 0), (.iadd, 516, 0, 0, 0, 0, 0), 
  (.iaload, 517, 0, 0, 0, 0, 0), (.invokevirtual 77, 520, 99, 0, 1, 0, 0), am_dum, am_dum, (.aload_n 2, 521, 2, 0, 0, 0, 0), (.aload_n 0, 522, 0, 0, 0, 0, 0), (.iload_n 3, 523, 3, 0, 0, 0, 0), (.iconst 1, 524, 0, 0, 0, 1, 0), 
  (.iadd, 525, 0, 0, 0, 0, 0), (.iaload, 526, 0, 0, 0, 0, 0), (.invokevirtual 80, 529, 130, 0, 1, 0, 0), am_dum, am_dum, (.if_icmp .eq 5, 532, 534, 0, 0, 0, 0), am_dum, am_dum, (.iconst 0, 533, 0, 0, 0, 0, 0), 
  (.ireturn, 534, 1, 0, 0, 0, 0), (.iinc 3 4, 537, 3, 0, 0, 4, 0), am_dum, am_dum, (.goto (-519), 540, 18, 0, 0, 0, 0), am_dum, am_dum, (.iconst 1, 541, 0, 0, 0, 1, 0), (.ireturn, 542, 1, 0, 0, 0, 0)]
def k_AL_init : List am_e := [
  (.aload_n 0, 1, 0, 0, 0, 0, 0), (.invokespecial 1, 4, 164, 1, 0, 0, 0), am_dum, am_dum, (.aload_n 0, 5, 0, 0, 0, 0, 0), (.getstatic 39, 8, 0, 0, 0, 0, 0), am_dum, am_dum, (.putfield 9, 11, 5, 1, 0, 0, 0), am_dum, am_dum, 
  (.return_, 12, 0, 0, 0, 0, 0)]
def k_AL_grow1 : List am_e := [
  (.aload_n 0, 1, 0, 0, 0, 0, 0), (.getfield 9, 4, 5, 1, 0, 0, 0), am_dum, am_dum, (.arraylength, 5, 0, 0, 0, 0, 0), (.istore_n 2, 6, 2, 0, 0, 0, 0), (.iload_n 2, 7, 2, 0, 0, 0, 0), (.ifCond .gt 13, 10, 20, 0, 0, 0, 0), am_dum, 
  am_dum, (.aload_n 0, 11, 0, 0, 0, 0, 0), (.getfield 9, 14, 5, 1, 0, 0, 0), am_dum, am_dum, (.getstatic 39, 17, 0, 0, 0, 0, 0), am_dum, am_dum, (.if_acmp .eq 28, 20, 45, 0, 0, 0, 0), am_dum, am_dum, 
  (.iload_n 2, 21, 2, 0, 0, 0, 0), (.iload_n 1, 22, 1, 0, 0, 0, 0), (.iload_n 2, 23, 2, 0, 0, 0, 0), (.isub, 24, 0, 0, 0, 0, 0), (.iload_n 2, 25, 2, 0, 0, 0, 0), (.iconst 1, 26, 0, 0, 0, 1, 0), (.ishr, 27, 0, 0, 0, 0, 0), 
  (.invokestatic 73, 30, 170, 3, 3, 0, 0), am_dum, am_dum, (.istore_n 3, 31, 3, 0, 0, 0, 0), (.aload_n 0, 32, 0, 0, 0, 0, 0), (.aload_n 0, 33, 0, 0, 0, 0, 0), (.getfield 9, 36, 5, 1, 0, 0, 0), am_dum, am_dum, 
  (.iload_n 3, 37, 3, 0, 0, 0, 0), (.invokestatic 66, 40, 166, 3, 2, 0, 0), am_dum, am_dum, (.dup_x1, 41, 0, 0, 0, 0, 0), (.putfield 9, 44, 5, 1, 0, 0, 0), am_dum, am_dum, (.areturn, 45, 0, 0, 0, 0, 0), 
  (.aload_n 0, 46, 0, 0, 0, 0, 0), (.bipush 10, 48, 0, 0, 0, 10, 0), am_dum, (.iload_n 1, 49, 1, 0, 0, 0, 0), (.invokestatic 79, 52, 0, 7, 2, 0, 0), am_dum, am_dum, (.anewarray 7, 55, 4, 0, 0, 0, 0), am_dum, am_dum, 
  (.dup_x1, 56, 0, 0, 0, 0, 0), (.putfield 9, 59, 5, 1, 0, 0, 0), am_dum, am_dum, (.areturn, 60, 0, 0, 0, 0, 0)]
def k_AL_grow2 : List am_e := [
  (.aload_n 0, 1, 0, 0, 0, 0, 0), (.aload_n 0, 2, 0, 0, 0, 0, 0), (.getfield 48, 5, 5, 2, 0, 0, 0), am_dum, am_dum, (.iconst 1, 6, 0, 0, 0, 1, 0), (.iadd, 7, 0, 0, 0, 0, 0), (.invokevirtual 69, 10, 156, 0, 1, 0, 0), am_dum, am_dum, 
  (.areturn, 11, 0, 0, 0, 0, 0)]
def k_AL_size : List am_e := [
  (.aload_n 0, 1, 0, 0, 0, 0, 0), (.getfield 48, 4, 5, 2, 0, 0, 0), am_dum, am_dum, (.ireturn, 5, 0, 0, 0, 0, 0)]
def k_AL_elementData : List am_e := [
  (.aload_n 0, 1, 0, 0, 0, 0, 0), (.getfield 9, 4, 5, 1, 0, 0, 0), am_dum, am_dum, (.iload_n 1, 5, 1, 0, 0, 0, 0), (.aaload, 6, 0, 0, 0, 0, 0), (.areturn, 7, 0, 0, 0, 0, 0)]
def k_AL_get : List am_e := [
  (.iload_n 1, 1, 1, 0, 0, 0, 0), (.aload_n 0, 2, 0, 0, 0, 0, 0), (.getfield 48, 5, 5, 2, 0, 0, 0), am_dum, am_dum, (.invokestatic 118, 8, 169, 3, 2, 0, 0), am_dum, am_dum, (.pop, 9, 0, 0, 0, 0, 0), (.aload_n 0, 10, 0, 0, 0, 0, 0), 
  (.iload_n 1, 11, 1, 0, 0, 0, 0), (.invokevirtual 123, 14, 159, 0, 1, 0, 0), am_dum, am_dum, (.areturn, 15, 0, 0, 0, 0, 0)]
def k_AL_add1 : List am_e := [
  (.iload_n 3, 1, 3, 0, 0, 0, 0), (.aload_n 2, 2, 2, 0, 0, 0, 0), (.arraylength, 3, 0, 0, 0, 0, 0), (.if_icmp .ne 8, 6, 11, 0, 0, 0, 0), am_dum, am_dum, (.aload_n 0, 7, 0, 0, 0, 0, 0), (.invokevirtual 129, 10, 157, 0, 0, 0, 0), 
  am_dum, am_dum, (.astore_n 2, 11, 2, 0, 0, 0, 0), (.aload_n 2, 12, 2, 0, 0, 0, 0), (.iload_n 3, 13, 3, 0, 0, 0, 0), (.aload_n 1, 14, 1, 0, 0, 0, 0), (.aastore, 15, 0, 0, 0, 0, 0), (.aload_n 0, 16, 0, 0, 0, 0, 0), 
  (.iload_n 3, 17, 3, 0, 0, 0, 0), (.iconst 1, 18, 0, 0, 0, 1, 0), (.iadd, 19, 0, 0, 0, 0, 0), (.putfield 48, 22, 5, 2, 0, 0, 0), am_dum, am_dum, (.return_, 23, 0, 0, 0, 0, 0)]
def k_AL_add2 : List am_e := [
  (.aload_n 0, 1, 0, 0, 0, 0, 0), (.dup, 2, 0, 0, 0, 0, 0), (.getfield 63, 5, 5, 0, 0, 0, 0), am_dum, am_dum, (.iconst 1, 6, 0, 0, 0, 1, 0), (.iadd, 7, 0, 0, 0, 0, 0), (.putfield 63, 10, 5, 0, 0, 0, 0), am_dum, am_dum, 
  (.aload_n 0, 11, 0, 0, 0, 0, 0), (.aload_n 1, 12, 1, 0, 0, 0, 0), (.aload_n 0, 13, 0, 0, 0, 0, 0), (.getfield 9, 16, 5, 1, 0, 0, 0), am_dum, am_dum, (.aload_n 0, 17, 0, 0, 0, 0, 0), (.getfield 48, 20, 5, 2, 0, 0, 0), am_dum, 
  am_dum, (.invokevirtual 131, 23, 161, 0, 3, 0, 0), am_dum, am_dum, (.iconst 1, 24, 0, 0, 0, 1, 0), (.ireturn, 25, 1, 0, 0, 0, 0)]
def k_AL_clear : List am_e := [
  (.aload_n 0, 1, 0, 0, 0, 0, 0), (.dup, 2, 0, 0, 0, 0, 0), (.getfield 63, 5, 5, 0, 0, 0, 0), am_dum, am_dum, (.iconst 1, 6, 0, 0, 0, 1, 0), (.iadd, 7, 0, 0, 0, 0, 0), (.putfield 63, 10, 5, 0, 0, 0, 0), am_dum, am_dum, 
  (.aload_n 0, 11, 0, 0, 0, 0, 0), (.getfield 9, 14, 5, 1, 0, 0, 0), am_dum, am_dum, (.astore_n 1, 15, 1, 0, 0, 0, 0), (.aload_n 0, 16, 0, 0, 0, 0, 0), (.getfield 48, 19, 5, 2, 0, 0, 0), am_dum, am_dum, 
  (.istore_n 2, 20, 2, 0, 0, 0, 0), (.aload_n 0, 21, 0, 0, 0, 0, 0), (.iconst 0, 22, 0, 0, 0, 0, 0), (.dup_x1, 23, 0, 0, 0, 0, 0), (.putfield 48, 26, 5, 2, 0, 0, 0), am_dum, am_dum, (.istore_n 3, 27, 3, 0, 0, 0, 0), 
  (.iload_n 3, 28, 3, 0, 0, 0, 0), (.iload_n 2, 29, 2, 0, 0, 0, 0), (.if_icmp .ge 13, 32, 42, 0, 0, 0, 0), am_dum, am_dum, (.aload_n 1, 33, 1, 0, 0, 0, 0), (.iload_n 3, 34, 3, 0, 0, 0, 0), (.aconst_null, 35, 0, 0, 0, 0, 0), 
  (.aastore, 36, 0, 0, 0, 0, 0), (.iinc 3 1, 39, 3, 0, 0, 1, 0), am_dum, am_dum, (.goto (-12), 42, 27, 0, 0, 0, 0), am_dum, am_dum, (.return_, 43, 0, 0, 0, 0, 0)]
def k_Ab_init : List am_e := [
  (.aload_n 0, 1, 0, 0, 0, 0, 0), (.invokespecial 1, 4, 165, 1, 0, 0, 0), am_dum, am_dum, (.aload_n 0, 5, 0, 0, 0, 0, 0), (.iconst 0, 6, 0, 0, 0, 0, 0), (.putfield 7, 9, 5, 0, 0, 0, 0), am_dum, am_dum, 
  (.return_, 10, 0, 0, 0, 0, 0)]
def k_AC_init : List am_e := [
  (.aload_n 0, 1, 0, 0, 0, 0, 0), (.invokespecial 1, 4, 0, 4, 0, 0, 0), am_dum, am_dum, (.return_, 5, 0, 0, 0, 0, 0)]
def k_Ar_copyOf1 : List am_e := [
  (.aload_n 0, 1, 0, 0, 0, 0, 0), (.iload_n 1, 2, 1, 0, 0, 0, 0), (.aload_n 0, 3, 0, 0, 0, 0, 0), (.invokevirtual 86, 6, 0, 5, 0, 0, 0), am_dum, am_dum, (.invokestatic 300, 9, 167, 3, 3, 0, 0), am_dum, am_dum, 
  (.areturn, 10, 0, 0, 0, 0, 0)]
def k_Ar_copyOf2 : List am_e := [
  (.aload_n 2, 1, 2, 0, 0, 0, 0), (.ldc 110, 3, 4, 1, 0, 0, 0), am_dum, (.if_acmp .ne 10, 6, 13, 0, 0, 0, 0), am_dum, am_dum, (.iload_n 1, 7, 1, 0, 0, 0, 0), (.anewarray 2, 10, 4, 0, 0, 0, 0), am_dum, am_dum, 
  (.goto 14, 13, 24, 0, 0, 0, 0), am_dum, am_dum, (.aload_n 2, 14, 2, 0, 0, 0, 0), (.invokevirtual 90, 17, 0, 9, 0, 0, 0), am_dum, am_dum, (.iload_n 1, 18, 1, 0, 0, 0, 0), (.invokestatic 95, 21, 0, 9, 0, 0, 0), am_dum, am_dum, 
  (.checkcast 110, 24, 99, 0, 0, 0, 0), am_dum, am_dum, (.astore_n 3, 25, 3, 0, 0, 0, 0), (.aload_n 0, 26, 0, 0, 0, 0, 0), (.iconst 0, 27, 0, 0, 0, 0, 0), (.aload_n 3, 28, 3, 0, 0, 0, 0), (.iconst 0, 29, 0, 0, 0, 0, 0), 
  (.aload_n 0, 30, 0, 0, 0, 0, 0), (.arraylength, 31, 0, 0, 0, 0, 0), (.iload_n 1, 32, 1, 0, 0, 0, 0), (.invokestatic 304, 35, 0, 8, 2, 0, 0), am_dum, am_dum, (.invokestatic 150, 38, 0, 6, 5, 0, 0), am_dum, am_dum, 
  (.aload_n 3, 39, 3, 0, 0, 0, 0), (.areturn, 40, 0, 0, 0, 0, 0)]
def k_Ar_copyOf3 : List am_e := [
  (.iload_n 1, 1, 1, 0, 0, 0, 0), (.aload_n 0, 2, 0, 0, 0, 0, 0), (.arraylength, 3, 0, 0, 0, 0, 0), (.if_icmp .ne 11, 6, 14, 0, 0, 0, 0), am_dum, am_dum, (.aload_n 0, 7, 0, 0, 0, 0, 0), (.invokevirtual 319, 10, 0, 9, 0, 0, 0), 
  am_dum, am_dum, (.checkcast 320, 13, 99, 0, 0, 0, 0), am_dum, am_dum, (.areturn, 14, 0, 0, 0, 0, 0), (.iload_n 1, 15, 1, 0, 0, 0, 0), (.newarray .long, 17, 3, 0, 0, 0, 0), am_dum, (.astore_n 2, 18, 2, 0, 0, 0, 0), 
  (.aload_n 0, 19, 0, 0, 0, 0, 0), (.iconst 0, 20, 0, 0, 0, 0, 0), (.aload_n 2, 21, 2, 0, 0, 0, 0), (.iconst 0, 22, 0, 0, 0, 0, 0), (.aload_n 0, 23, 0, 0, 0, 0, 0), (.arraylength, 24, 0, 0, 0, 0, 0), 
  (.iload_n 1, 25, 1, 0, 0, 0, 0), (.invokestatic 304, 28, 0, 8, 2, 0, 0), am_dum, am_dum, (.invokestatic 150, 31, 0, 6, 5, 0, 0), am_dum, am_dum, (.aload_n 2, 32, 2, 0, 0, 0, 0), (.areturn, 33, 0, 0, 0, 0, 0)]
def k_Ob_checkIndex : List am_e := [
  (.iload_n 0, 1, 0, 0, 0, 0, 0), (.iload_n 1, 2, 1, 0, 0, 0, 0), (.aconst_null, 3, 0, 0, 0, 0, 0), (.invokestatic 105, 6, 171, 3, 3, 0, 0), am_dum, am_dum, (.ireturn, 7, 0, 0, 0, 0, 0)]
def k_AS_newLength : List am_e := [
  (.iload_n 0, 1, 0, 0, 0, 0, 0), (.iload_n 1, 2, 1, 0, 0, 0, 0), (.iload_n 2, 3, 2, 0, 0, 0, 0), (.invokestatic 194, 6, 0, 7, 2, 0, 0), am_dum, am_dum, (.iadd, 7, 0, 0, 0, 0, 0), (.istore_n 3, 8, 3, 0, 0, 0, 0), 
  (.iconst 0, 9, 0, 0, 0, 0, 0), (.iload_n 3, 10, 3, 0, 0, 0, 0), (.if_icmp .ge 11, 13, 21, 0, 0, 0, 0), am_dum, am_dum, (.iload_n 3, 14, 3, 0, 0, 0, 0), (.ldc 200, 16, 0, 0, 0, 2147483639, 0), am_dum, 
  (.if_icmp .gt 5, 19, 21, 0, 0, 0, 0), am_dum, am_dum, (.iload_n 3, 20, 3, 0, 0, 0, 0), (.ireturn, 21, 0, 0, 0, 0, 0), (.iload_n 0, 22, 0, 0, 0, 0, 0), (.iload_n 1, 23, 1, 0, 0, 0, 0), (.invokestatic 201, 26, 0, 9, 2, 0, 0), 
  am_dum, am_dum, (.ireturn, 27, 0, 0, 0, 0, 0)]
def k_Pr_checkIndex : List am_e := [
  (.iload_n 0, 1, 0, 0, 0, 0, 0), (.ifCond .lt 8, 4, 9, 0, 0, 0, 0), am_dum, am_dum, (.iload_n 0, 5, 0, 0, 0, 0, 0), (.iload_n 1, 6, 1, 0, 0, 0, 0), (.if_icmp .lt 10, 9, 16, 0, 0, 0, 0), am_dum, am_dum, 
  (.aload_n 2, 10, 2, 0, 0, 0, 0), (.iload_n 0, 11, 0, 0, 0, 0, 0), (.iload_n 1, 12, 1, 0, 0, 0, 0), (.invokestatic 95, 15, 0, 9, 0, 0, 0), am_dum, am_dum, (.athrow, 16, 0, 0, 0, 0, 0), (.iload_n 0, 17, 0, 0, 0, 0, 0), 
  (.ireturn, 18, 0, 0, 0, 0, 0)]
def am_code : List (List am_e) := [k_An_init, k_An_clear, k_An_count, k_An_add, k_An_has, k_An_textAt, k_An_weightAt, k_La_init, k_La_number, k_La_isStop, k_La_addStop, k_La_ruleCount, k_La_addRule, k_La_stemOf, k_La_isEnding, k_La_stemInTexts, k_Li_init, k_Li_clear, k_Li_count, k_Li_wordAt, k_Li_search, k_Li_offer, k_Li_holds, k_Li_insert, k_Li_standsBefore, k_Li_changesNeeded, k_Pa_init, k_Qu_init, k_Qu_read, k_Qu_skipBlanks, k_Qu_readPart, k_Qu_readPhrase, k_Qu_readWord, k_Qu_seek, k_Qu_stemSought, k_Qu_soughtBy, k_Qu_weigh, k_Qu_hasTerm, k_Qu_weightOf, k_Qu_isAnsweredBy, k_Qu_isPartAnsweredBy, k_Sh_init, k_Sh_put, k_Sh_takeAway, k_Sh_has, k_Sh_isIn, k_Sh_firstOf, k_Sh_endOf, k_Sh_stemAgain, k_Sh_hasPlace, k_Sh_startOf, k_Sh_sizeOf, k_Sh_countTexts, k_Sh_countStems, k_Sh_countNewStems, k_Sh_hasEarlier, k_Sh_timesOf, k_Sh_countTextsWith, k_Sh_hasBeginning, k_Sh_hasPhrase, k_Sh_standsAt, k_Sh_wordUnlessStop, k_Ta_init, k_Ta_length, k_Ta_append, k_Ta_clear, k_Ta_symbolAt, k_Ta_wordEnd, k_Ta_wordBetween, k_Ta_split, k_Ta_keepWord, k_Ta_wordCount, k_Ta_hasWord, k_Ta_wordAt, k_Ta_startAt, k_Ta_sizeAt, k_Wo_digitOf, k_Wo_withDigit, k_Wo_withZeros, k_Wo_withoutLast, k_Wo_lengthOf, k_Wo_symbolAt, k_Wo_isBeginning, k_Wo_spread, k_TI_init, k_TI_type, k_TI_text, k_TI_remove, k_TI_stop, k_TI_ending, k_TI_stem, k_TI_ask, k_TI_answer, k_TI_score, k_TI_like, k_TI_word, k_TI_at, k_TI_place, k_TI_texts, k_TI_stems, k_TI_languageOf, k_TI_takeFirstWord, k_TI_tell, k_Mo_init, k_Mo_byteOf, k_Mo_same, k_Mo_beginsSo, k_Mo_add, k_Mo_copy, k_Mo_letter, k_Mo_type, k_Mo_readWords, k_Mo_isLanguage, k_Mo_isStop, k_Mo_stop, k_Mo_endingAt, k_Mo_ending, k_Mo_ends, k_Mo_stemTo, k_Mo_show, k_Mo_stem, k_Mo_at, k_Mo_text, k_Mo_wordsOf, k_Mo_isText, k_Mo_remove, k_Mo_texts, k_Mo_place, k_Mo_hasAt, k_Mo_times, k_Mo_stems, k_Mo_isFirst, k_Mo_here, k_Mo_need, k_Mo_skip, k_Mo_isLetter, k_Mo_isPart, k_Mo_readWord, k_Mo_readPart, k_Mo_readQuestion, k_Mo_hasPhrase, k_Mo_answersPart, k_Mo_answersRow, k_Mo_isAsked, k_Mo_countStems, k_Mo_scoreOf, k_Mo_ask, k_Mo_answer, k_Mo_score, k_Mo_distance, k_Mo_isBefore, k_Mo_like, k_Mo_isLiked, k_Mo_word, k_Law_law, k_AL_init, k_AL_grow1, k_AL_grow2, k_AL_size, k_AL_elementData, k_AL_get, k_AL_add1, k_AL_add2, k_AL_clear, k_Ab_init, k_AC_init, k_Ar_copyOf1, k_Ar_copyOf2, k_Ar_copyOf3, k_Ob_checkIndex, k_AS_newLength, k_Pr_checkIndex]
def am_mls : List Nat := [1, 1, 1, 5, 2, 2, 2, 2, 1, 4, 3, 1, 5, 8, 11, 3, 1, 1, 1, 2, 9, 5, 4, 5, 5, 7, 6, 2, 3, 2, 5, 6, 3, 3, 6, 2, 10, 4, 6, 7, 4, 1, 6, 2, 2, 4, 2, 2, 5, 3, 3, 3, 3, 4, 6, 7, 7, 7, 6, 7, 8, 3, 1, 1, 5, 1, 2, 3, 7, 4, 3, 1, 2, 2, 2, 2, 1, 3, 6, 6, 5, 4, 5, 8, 2, 4, 5, 2, 6, 8, 5, 6, 2, 2, 5, 4, 2, 4, 1, 2, 2, 3, 3, 1, 3, 5, 5, 3, 4, 1, 5, 4, 1, 4, 4, 2, 3, 6, 7, 3, 2, 2, 4, 4, 2, 2, 1, 4, 6, 6, 5, 6, 1, 2, 1, 1, 1, 1, 3, 3, 8, 5, 4, 4, 6, 10, 10, 2, 2, 9, 4, 8, 3, 2, 4, 1, 4, 1, 1, 2, 2, 4, 2, 4, 1, 1, 2, 4, 3, 2, 4, 3]
def am_kcs : List Nat := [6, 6, 6, 6, 6, 6, 6, 2, 2, 2, 2, 2, 2, 2, 2, 2, 7, 7, 7, 7, 7, 7, 7, 7, 7, 7, 9, 4, 4, 4, 4, 4, 4, 4, 4, 4, 4, 4, 4, 4, 4, 3, 3, 3, 3, 3, 3, 3, 3, 3, 3, 3, 3, 3, 3, 3, 3, 3, 3, 3, 3, 3, 1, 1, 1, 1, 1, 1, 1, 1, 1, 1, 1, 1, 1, 1, 98, 98, 98, 98, 98, 98, 98, 98, 0, 0, 0, 0, 0, 0, 0, 0, 0, 0, 0, 0, 0, 0, 0, 0, 0, 0, 0, 8, 8, 8, 8, 8, 8, 8, 8, 8, 8, 8, 8, 8, 8, 8, 8, 8, 8, 8, 8, 8, 8, 8, 8, 8, 8, 8, 8, 8, 8, 8, 8, 8, 8, 8, 8, 8, 8, 8, 8, 8, 8, 8, 8, 8, 8, 8, 8, 8, 8, 8, 98, 5, 5, 5, 5, 5, 5, 5, 5, 5, 98, 98, 98, 98, 98, 98, 98, 98]
def am_Ds : List Nat := [1, 0, 0, 0, 0, 1, 1, 1, 0, 0, 2, 0, 0, 2, 1, 3, 1, 0, 0, 0, 3, 2, 0, 1, 0, 1, 1, 4, 9, 1, 8, 7, 2, 0, 4, 0, 4, 0, 3, 4, 3, 1, 4, 1, 0, 1, 1, 1, 4, 2, 3, 3, 1, 4, 3, 2, 2, 3, 2, 2, 0, 0, 1, 0, 0, 0, 0, 1, 1, 3, 2, 0, 0, 1, 1, 1, 0, 0, 0, 0, 0, 1, 1, 0, 5, 1, 5, 2, 5, 5, 5, 10, 2, 2, 5, 2, 2, 4, 2, 5, 0, 4, 1, 1, 0, 1, 1, 0, 1, 0, 0, 1, 0, 2, 3, 0, 2, 1, 2, 1, 3, 0, 2, 0, 0, 1, 0, 1, 3, 4, 5, 4, 0, 0, 1, 1, 2, 2, 3, 4, 4, 5, 6, 0, 3, 5, 7, 0, 0, 1, 1, 3, 2, 2, 11, 3, 3, 4, 0, 0, 2, 5, 6, 0, 2, 1, 2, 1, 1, 1, 1, 0]
def am_Los : List Nat := [20, 0, 0, 0, 0, 21, 21, 20, 0, 0, 48, 0, 0, 55, 25, 82, 20, 0, 0, 0, 72, 48, 0, 24, 0, 21, 20, 80, 206, 21, 182, 157, 48, 0, 104, 0, 94, 0, 68, 97, 74, 20, 104, 21, 0, 21, 21, 21, 104, 42, 64, 64, 21, 95, 70, 44, 42, 68, 49, 42, 0, 0, 20, 0, 0, 0, 0, 21, 22, 70, 48, 0, 0, 21, 21, 21, 0, 0, 0, 0, 0, 25, 25, 0, 101, 24, 129, 42, 128, 128, 115, 228, 42, 42, 115, 46, 48, 86, 43, 118, 0, 93, 24, 20, 0, 22, 22, 0, 22, 0, 0, 22, 0, 46, 69, 0, 45, 22, 47, 22, 73, 0, 45, 0, 0, 21, 0, 21, 73, 98, 123, 98, 0, 0, 20, 20, 40, 40, 60, 82, 98, 125, 149, 0, 73, 123, 172, 0, 0, 22, 22, 69, 46, 44, 253, 60, 70, 93, 0, 0, 43, 113, 136, 0, 40, 20, 49, 26, 26, 22, 21, 0]
def am_dfs : List (List Value) := [[.null, .null, .null, .null, .null, .null, .long 0], [.null, .int 0, .null, .null, .null, .int 0], [.int 0, .null, .null, .int 0, .null, .int 0], [.null, .null, .null, .null, .int 0, .null, .null, .null, .null, .int 0], [.null, .null, .null, .int 0, .null, .null, .int 0, .int 0, .int 0], [.int 0, .null, .int 0], [.null, .null, .int 0], [.null, .null, .int 0, .null, .int 0, .null, .null], [.null, .null, .null, .int 0, .null, .null, .null, .null, .null, .int 0, .int 0, .null, .int 0, .null, .int 0, .null, .null, .null, .null, .null, .null, .int 0, .int 0, .int 0, .int 0, .null, .null, .int 0, .null, .int 0, .null, .int 0, .null], [.null, .int 0, .int 0, .int 0, .int 0]]
def am_E (m pc : Nat) : Option am_e := match am_get am_code m with
  | some l => am_get l pc
  | none => none
def am_ml (m : Nat) : Nat := match am_get am_mls m with
  | some n => n
  | none => 0
def am_kc (m : Nat) : Nat := match am_get am_kcs m with
  | some n => n
  | none => 97
def am_D (m : Nat) : Nat := match am_get am_Ds m with
  | some n => n
  | none => 0
def am_Lo (m : Nat) : Nat := match am_get am_Los m with
  | some n => n
  | none => 0
def am_df (c : Nat) : List Value := match am_get am_dfs c with
  | some n => n
  | none => []
def am_ft (c : Nat) : Nat → FieldType := match c with
  | 0 => ty_TI
  | 1 => ty_Ta
  | 2 => ty_La
  | 3 => ty_Sh
  | 4 => ty_Qu
  | 5 => ty_AL
  | 6 => ty_An
  | 7 => ty_Li
  | 8 => ty_Mo
  | _ => ty_Pa
abbrev m_An_init : Nat := 0
abbrev m_An_clear : Nat := 1
abbrev m_An_count : Nat := 2
abbrev m_An_add : Nat := 3
abbrev m_An_has : Nat := 4
abbrev m_An_textAt : Nat := 5
abbrev m_An_weightAt : Nat := 6
abbrev m_La_init : Nat := 7
abbrev m_La_number : Nat := 8
abbrev m_La_isStop : Nat := 9
abbrev m_La_addStop : Nat := 10
abbrev m_La_ruleCount : Nat := 11
abbrev m_La_addRule : Nat := 12
abbrev m_La_stemOf : Nat := 13
abbrev m_La_isEnding : Nat := 14
abbrev m_La_stemInTexts : Nat := 15
abbrev m_Li_init : Nat := 16
abbrev m_Li_clear : Nat := 17
abbrev m_Li_count : Nat := 18
abbrev m_Li_wordAt : Nat := 19
abbrev m_Li_search : Nat := 20
abbrev m_Li_offer : Nat := 21
abbrev m_Li_holds : Nat := 22
abbrev m_Li_insert : Nat := 23
abbrev m_Li_standsBefore : Nat := 24
abbrev m_Li_changesNeeded : Nat := 25
abbrev m_Pa_init : Nat := 26
abbrev m_Qu_init : Nat := 27
abbrev m_Qu_read : Nat := 28
abbrev m_Qu_skipBlanks : Nat := 29
abbrev m_Qu_readPart : Nat := 30
abbrev m_Qu_readPhrase : Nat := 31
abbrev m_Qu_readWord : Nat := 32
abbrev m_Qu_seek : Nat := 33
abbrev m_Qu_stemSought : Nat := 34
abbrev m_Qu_soughtBy : Nat := 35
abbrev m_Qu_weigh : Nat := 36
abbrev m_Qu_hasTerm : Nat := 37
abbrev m_Qu_weightOf : Nat := 38
abbrev m_Qu_isAnsweredBy : Nat := 39
abbrev m_Qu_isPartAnsweredBy : Nat := 40
abbrev m_Sh_init : Nat := 41
abbrev m_Sh_put : Nat := 42
abbrev m_Sh_takeAway : Nat := 43
abbrev m_Sh_has : Nat := 44
abbrev m_Sh_isIn : Nat := 45
abbrev m_Sh_firstOf : Nat := 46
abbrev m_Sh_endOf : Nat := 47
abbrev m_Sh_stemAgain : Nat := 48
abbrev m_Sh_hasPlace : Nat := 49
abbrev m_Sh_startOf : Nat := 50
abbrev m_Sh_sizeOf : Nat := 51
abbrev m_Sh_countTexts : Nat := 52
abbrev m_Sh_countStems : Nat := 53
abbrev m_Sh_countNewStems : Nat := 54
abbrev m_Sh_hasEarlier : Nat := 55
abbrev m_Sh_timesOf : Nat := 56
abbrev m_Sh_countTextsWith : Nat := 57
abbrev m_Sh_hasBeginning : Nat := 58
abbrev m_Sh_hasPhrase : Nat := 59
abbrev m_Sh_standsAt : Nat := 60
abbrev m_Sh_wordUnlessStop : Nat := 61
abbrev m_Ta_init : Nat := 62
abbrev m_Ta_length : Nat := 63
abbrev m_Ta_append : Nat := 64
abbrev m_Ta_clear : Nat := 65
abbrev m_Ta_symbolAt : Nat := 66
abbrev m_Ta_wordEnd : Nat := 67
abbrev m_Ta_wordBetween : Nat := 68
abbrev m_Ta_split : Nat := 69
abbrev m_Ta_keepWord : Nat := 70
abbrev m_Ta_wordCount : Nat := 71
abbrev m_Ta_hasWord : Nat := 72
abbrev m_Ta_wordAt : Nat := 73
abbrev m_Ta_startAt : Nat := 74
abbrev m_Ta_sizeAt : Nat := 75
abbrev m_Wo_digitOf : Nat := 76
abbrev m_Wo_withDigit : Nat := 77
abbrev m_Wo_withZeros : Nat := 78
abbrev m_Wo_withoutLast : Nat := 79
abbrev m_Wo_lengthOf : Nat := 80
abbrev m_Wo_symbolAt : Nat := 81
abbrev m_Wo_isBeginning : Nat := 82
abbrev m_Wo_spread : Nat := 83
abbrev m_TI_init : Nat := 84
abbrev m_TI_type : Nat := 85
abbrev m_TI_text : Nat := 86
abbrev m_TI_remove : Nat := 87
abbrev m_TI_stop : Nat := 88
abbrev m_TI_ending : Nat := 89
abbrev m_TI_stem : Nat := 90
abbrev m_TI_ask : Nat := 91
abbrev m_TI_answer : Nat := 92
abbrev m_TI_score : Nat := 93
abbrev m_TI_like : Nat := 94
abbrev m_TI_word : Nat := 95
abbrev m_TI_at : Nat := 96
abbrev m_TI_place : Nat := 97
abbrev m_TI_texts : Nat := 98
abbrev m_TI_stems : Nat := 99
abbrev m_TI_languageOf : Nat := 100
abbrev m_TI_takeFirstWord : Nat := 101
abbrev m_TI_tell : Nat := 102
abbrev m_Mo_init : Nat := 103
abbrev m_Mo_byteOf : Nat := 104
abbrev m_Mo_same : Nat := 105
abbrev m_Mo_beginsSo : Nat := 106
abbrev m_Mo_add : Nat := 107
abbrev m_Mo_copy : Nat := 108
abbrev m_Mo_letter : Nat := 109
abbrev m_Mo_type : Nat := 110
abbrev m_Mo_readWords : Nat := 111
abbrev m_Mo_isLanguage : Nat := 112
abbrev m_Mo_isStop : Nat := 113
abbrev m_Mo_stop : Nat := 114
abbrev m_Mo_endingAt : Nat := 115
abbrev m_Mo_ending : Nat := 116
abbrev m_Mo_ends : Nat := 117
abbrev m_Mo_stemTo : Nat := 118
abbrev m_Mo_show : Nat := 119
abbrev m_Mo_stem : Nat := 120
abbrev m_Mo_at : Nat := 121
abbrev m_Mo_text : Nat := 122
abbrev m_Mo_wordsOf : Nat := 123
abbrev m_Mo_isText : Nat := 124
abbrev m_Mo_remove : Nat := 125
abbrev m_Mo_texts : Nat := 126
abbrev m_Mo_place : Nat := 127
abbrev m_Mo_hasAt : Nat := 128
abbrev m_Mo_times : Nat := 129
abbrev m_Mo_stems : Nat := 130
abbrev m_Mo_isFirst : Nat := 131
abbrev m_Mo_here : Nat := 132
abbrev m_Mo_need : Nat := 133
abbrev m_Mo_skip : Nat := 134
abbrev m_Mo_isLetter : Nat := 135
abbrev m_Mo_isPart : Nat := 136
abbrev m_Mo_readWord : Nat := 137
abbrev m_Mo_readPart : Nat := 138
abbrev m_Mo_readQuestion : Nat := 139
abbrev m_Mo_hasPhrase : Nat := 140
abbrev m_Mo_answersPart : Nat := 141
abbrev m_Mo_answersRow : Nat := 142
abbrev m_Mo_isAsked : Nat := 143
abbrev m_Mo_countStems : Nat := 144
abbrev m_Mo_scoreOf : Nat := 145
abbrev m_Mo_ask : Nat := 146
abbrev m_Mo_answer : Nat := 147
abbrev m_Mo_score : Nat := 148
abbrev m_Mo_distance : Nat := 149
abbrev m_Mo_isBefore : Nat := 150
abbrev m_Mo_like : Nat := 151
abbrev m_Mo_isLiked : Nat := 152
abbrev m_Mo_word : Nat := 153
abbrev m_Law_law : Nat := 154
abbrev m_AL_init : Nat := 155
abbrev m_AL_grow1 : Nat := 156
abbrev m_AL_grow2 : Nat := 157
abbrev m_AL_size : Nat := 158
abbrev m_AL_elementData : Nat := 159
abbrev m_AL_get : Nat := 160
abbrev m_AL_add1 : Nat := 161
abbrev m_AL_add2 : Nat := 162
abbrev m_AL_clear : Nat := 163
abbrev m_Ab_init : Nat := 164
abbrev m_AC_init : Nat := 165
abbrev m_Ar_copyOf1 : Nat := 166
abbrev m_Ar_copyOf2 : Nat := 167
abbrev m_Ar_copyOf3 : Nat := 168
abbrev m_Ob_checkIndex : Nat := 169
abbrev m_AS_newLength : Nat := 170
abbrev m_Pr_checkIndex : Nat := 171
