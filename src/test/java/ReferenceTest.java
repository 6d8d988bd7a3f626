/**
 * Programs whose every answer was worked out by a second program, written from the document in another language and
 * in its plainest form. The last text is the hash of all answers, as whole() lists them.
 */
public final class ReferenceTest {
    private static final String[][] DUE = {
        {"int c; row e[2]; int b,d; do {b=b-2;while(d<8){b=b-1;e[1]=b;}} while(d<=9);",
            "read 7 lower 16 12 improve 5 rounds 3 colours 1", "2069266236"},
        {"row a[3]; print (2); int i; while(31){i=i-2;a[2147483647-i]=(i);} if(1)if(1)i=(i);",
            "read 9 lower 16 7 improve 7 rounds 3 colours 2", "-123703136"},
        {"row x[100]; row d[3]; if(31){}",
            "read 2 lower 2 0 improve 1 rounds 2 colours 0", "-1595164739"},
        {"row x[100]; row y[5]; if(7)print 77;",
            "read 2 lower 3 0 improve 2 rounds 2 colours 0", "612089987"},
        {"row d[2]; while(32)d[0]=5;",
            "read 2 lower 4 0 improve 2 rounds 2 colours 0", "1105884715"},
        {"row d[1]; int a,y,c; row x[3]; a=x[0]; read a; x[1]=(31); if(c+0+a==c){} {if(a){}c=(~a)+~a<0;} while(!c){y=y+3;do {c=c+2;a=(d[3]);} while(y<0);}",
            "read 16 lower 36 26 improve 17 rounds 4 colours 3", "1402722943"},
        {"int e,x,y;int b,a,c;def f0(){print ~(a)*2;print -x||a%(y);}if(e)print --e;if(1<<f0())if(c){print -(y)*y;e=f0();c=~x;}else f0();else x=32/e&&x/(x)<<e;",
            "read 12 lower 75 56 improve 7 rounds 5 colours 1", "2024882167"},
        {"row b[5];int a;int c,y;int e;y=b[b[3]];do {y=y-1;{read c;while(a<2){y=y+2;do {y=y+2;{read y;a=(!(a));}} while(c<=5);}}} while(c<0);b[y-2147483647]=-~(y);while(e>6){e=e-3;y=70;}print 5;if(3|c!=~(y)){}else if((~y))c=(0);else {}if(y){print 32;if(b[e]!=y||a){do a=a-(1); while(e!=5);do {e=e+2;{}} while(b[0]);}if(82%(42)){}}else if(a){}",
            "read 41 lower 83 52 improve 33 rounds 7 colours 4", "1787022816"},
        {"int x,e; int v,i; do {e=e-3;{}} while(e<9); e=v&&31;",
            "read 5 lower 12 10 improve 5 rounds 3 colours 2", "-1016475465"},
        {"int c; int x,e; do {x=x-3;{e=(e);}} while(x); if(e)x=5;",
            "read 7 lower 11 8 improve 4 rounds 3 colours 1", "-859105440"},
        {"int d; d=d;",
            "read 1 lower 3 2 improve 1 rounds 2 colours 0", "1272801286"},
        {"int e; e=(32);",
            "read 1 lower 2 1 improve 1 rounds 2 colours 0", "-1330181372"},
        {"int x,d,e; x=5;",
            "read 1 lower 2 3 improve 1 rounds 2 colours 0", "-468645510"},
        {"int b; b=b-b-b; read b;",
            "read 2 lower 8 6 improve 2 rounds 2 colours 1", "178776058"},
        {"int d; d=(3)+d+d&&(~(5));",
            "read 1 lower 10 7 improve 1 rounds 2 colours 0", "1164888342"},
        {"int y,b; def f0(a,p,z){y=31>>!y^5;} {do {y=y-2;{read y;}} while(y<7);print (f0(31,7,b))/y;} y=f0(f0(2147483647,7,!b),f0(y,46,b)||f0(y,b,b),b>=y); read b; b=f0(y,!b+y,y); do {b=b-3;if(31){}} while(y<=3); if(f0(y,7<y,-(b)))b=31-!y<<2147483647; b=f0(y%y%!63,b%y>>1&&y,!(f0(b,y,1))); while(y<1){y=y-3;y=32;} y=b;",
            "read 24 lower 160 130 improve 11 rounds 14 colours 2", "1664963818"},
        {"def f0(z,b,p){while(z<6){b=b-3;return b;}if(z)return !((2));else {z=2;}} row c[5]; row a[1]; int b,x; b=(f0(7&x,f0(b,x,2),x||0)); b=c[!x]; do c[31]=!(x); while(x); do {x=b;break;} while(b!=7); do {b=b-3;{a[2]=2;do {b=b-3;{if(f0(b,b|b,c[0]))f0(b,32,x^b);else {next;print 0>=b!=~(b)!=c[3]!=x>32;}}} while(b<=8);a[3]=b;}} while(b<=9);",
            "read 31 lower 147 89 improve 14 rounds 10 colours 2", "-1504591554"},
        {"int a,e,b; int d,y,c; row x[1]; b=~a; a=e||(x[3]); x[0]=d>>32<d; while(d<0){b=b+3;read y;} x[3]=x[3]; do {d=d-3;{if(b-(e))d=y<=~(-y);y=32;}} while(a<8); d=2/y;",
            "read 16 lower 45 34 improve 8 rounds 9 colours 2", "1285591345"},
        {"row y[2];int d;int x,b;y[5]=~(x);x=!((b));b=y[3];if(3+(b)){}else {}print x||y[d^b]-b==x;{if((32)){do {} while(b!=9);while(b<1){x=x+3;{b=((!x));int u,i;}}}}if(x)b=x<<x<<5&&!(d);else {}if(b){}else {x=(b>x)&d;x=(b);}",
            "read 26 lower 66 45 improve 15 rounds 9 colours 3", "-1608413887"},
        {"int c; if(c)c=((1)<c<<c); do {c=(c)!=!97+c|c==c;c=(c||c||~c);c=~5;} while(c); print 2147483647; if(2){int v,a;while(a<=0){v=v-3;{if(c)a=(c)<<a==c||(2);else {}v=c<=v;}}}else {c=(92)&&c==c<1;c=(!32)<=5>(c);c=--(c|c);}",
            "read 23 lower 80 53 improve 1 rounds 9 colours 0", "710511269"},
        {"int d,e; {} print d+1&&5>(70); do {e=e-3;read e;} while(e<8); print 3; d=e; if((2147483647*d))if(((e))){while(d<6){d=d+2;{d=2/5<=(d)*d;e=((e))&&(~(d));break;}}print d<(3)|2147483647+3||2;}else {int u,w;while(u>9){d=d-2;{}}w=!((e>=7));}else {d=e/d<=!(~7);{d=82;if(d){print !((d!=7));}e=((e)&&(0));}int w;}",
            "read 35 lower 87 54 improve 13 rounds 9 colours 2", "1746935554"},
        {"def f0(q,z){q=2;q=(z);int a,w;} print f0(3,7>=2|1<32); int w; read w; {} if((w))read w;else {w=~w/w;w=!w&&w>>w;if(f0(f0(w,7),f0(w,w)))do {w=w-3;{}} while(w<=1);} print f0((1)>>7+w,w);",
            "read 18 lower 80 56 improve 9 rounds 8 colours 2", "16122760"},
        {"int b;int a;b=b;{}a=(b+a)>=b^1;a=(b);while(a>7){b=b+2;{int n50;print (a)&&a|-(a);read a;}}read b;b=-b<=5;if(!a&&a){while(b<=5){a=a-2;if((a))next;}}else {a=(b)>!((b));do {b=32>>7>=(a);} while(2);a=2>=a-1!=(b|31);}",
            "read 26 lower 70 46 improve 2 rounds 8 colours 1", "326481047"},
        {"row d[100];int c;int x;c=x;c=x;c=!(c>31)%32;x=2147483647&&x*(7);print x>1||x<=x;c=~x;read x;int i,a;c=2147483647&&i^a<d[6];if(i+c)x=2147483647;else if(a+a*a){if(d[2]){x=d[3]>=a^2147483647!=x||c;i=(!(c));int u;}}else {i=c;}",
            "read 20 lower 72 48 improve 3 rounds 8 colours 1", "-923105749"},
        {"int d,c; def f0(){c=(c)>>d||d;d=5<d;c=(~!d);} print f0(); print -((d<=c)); if(5||5>>(d))while(d!=8){c=c-2;{if(c>(d)){c=c;c=f0();c=d;}else {c=f0();d=32;}}} c=d; if(2)do {c=c+2;if(d>d<<f0())d=d;} while((1!=d)); do {if(d)if(31)f0();} while(d<=7);",
            "read 30 lower 134 86 improve 26 rounds 8 colours 3", "-2068207944"},
        {"def f0(z){z=-(z>>!z);} int c; int a; int e,b; e=0; print c>~(1); while(a!=0){e=e-2;{a=c;do {b=b-1;{next;}} while(e<=9);}} c=c; e=1||f0(5||a); b=2>>!3>=e%2; print 31; {f0(b&&b);} int u; while(c<9){e=e+1;{if(a>>-e)f0(e>e);int v;print f0(!a-a);}}",
            "read 28 lower 98 73 improve 7 rounds 8 colours 1", "1337097615"},
        {"int y; print ((2%y)); y=2; y=(3)&&51!=2==3+y%y; if((y)&&y)y=y;else {} while(y!=9){y=y+2;while(y>0){y=y+1;print (~(y));}} int u; u=(~(u)>(u)); print y&&u+u==1; if(((y))){if((y<<y))u=((y)-u);y=(u);u=2;}else if((u)<=y&&32)if(y%2)u=-2+u>>y;else u=(47);",
            "read 26 lower 88 54 improve 16 rounds 8 colours 2", "1745877262"},
        {"int b,d,a;def f0(q,a){read a;b=q&&79<=q<<a;if(a&&b+(d)){return ((d));a=76/2147483647^5;b=(((q)));}}print 2<a^(d)/d!=-2;f0(!d,d);{b=f0(!(31),5-b)>!a>2;b=a<<(2147483647||b);}print !(~(2147483647));do print !32==a<=7-32; while(a!=2);f0(d,-(d));print f0(87,a|f0(d,3));",
            "read 17 lower 192 130 improve 9 rounds 8 colours 1", "1671227141"},
        {"def f0(p,b){while(b<=1){b=b-3;{}}if(b&p!=(b))return b;} row y[5]; int e,a,b; y[f0(e,b)]=e; a=1; y[1]=(a&&b); print 3; e=32|b-f0(b,3)>=e; while(a<8){e=e+3;{break;}} y[a]=!2+7; print b<b; read a; y[1]=30; {b=b;e=y[a];f0(f0(a,a),5/e);} print f0((0),e); y[2]=3>>e; if(e){if(0)b=a;else {if(e)a=b;e=b;e=31>>e>a*1;}}else e=f0(5,y[2]);",
            "read 36 lower 187 124 improve 57 rounds 8 colours 4", "1656727640"},
        {"int a,c;row x[5];def f0(q,z){if(c){q=1-q;z=z<31;int u,v;}else {read a;q=x[0];}}a=-(f0(x[1],2/a));a=a/c&&f0(0,5)&-a|a%49;a=2<a;",
            "read 11 lower 56 40 improve 6 rounds 7 colours 1", "1883417890"},
        {"row d[3]; int a,y; def f0(q,p){if(2){}if(p){a=(y);y=p-d[2147483647]>>y<=p;q=(y<=p>>~5);}a=(((q)));} do {y=y-3;d[3]=f0(!7,f0(7,5));} while(y<=9); f0(y,y);",
            "read 13 lower 83 63 improve 12 rounds 7 colours 2", "-1836301606"},
        {"row e[3]; int b; b=b; read b; {print e[1];} b=(~b&&!(b)); b=!((b)+b>>b); if(31)e[b||1]=b||1>>b;else if(32)read b; b=(b-31)!=3-b*b; {if(b<<2147483647){}b=-~e[1];b=-(b==1);}",
            "read 16 lower 55 35 improve 17 rounds 7 colours 3", "-1184892927"},
        {"int d,e,b; int w; read d; e=e; read b; d=31<0+d&&2%(e); d=(-w); if(b-0){}else {b=88;{while((-d))e=(-31);}} d=w>=-(e); if((2&&b))while(w>0){e=e+3;{read e;do {b=w<<e;read d;} while(w<1);break;}}",
            "read 24 lower 55 33 improve 7 rounds 7 colours 2", "-791811458"},
        {"int x; int y,b; row d[100]; def f0(p){{int u,a;}x=b|b-3||d[3];} row c[1]; if(32)b=c[2]+y; {{f0(x);}print y;{read b;{}f0((y));}} do {b=b-2;print b;} while(x!=3); d[3]=y; print x; read x; if(b)x=x;",
            "read 22 lower 54 38 improve 18 rounds 7 colours 3", "1341301380"},
        {"def f0(){} row d[1]; int e; def f1(q,b,a){d[1]=e;} if(2147483647--1){e=e!=7|d[0]<-(!(0));if(e){while(e>5){e=e+2;{break;read e;int w,a;}}}e=d[2];}else e=e; if(2){if(-~(e)){e=31;}} read e; e=e; while(e<=5){e=e-3;do {} while(e<9);}",
            "read 27 lower 49 29 improve 10 rounds 7 colours 2", "1933720466"},
        {"row b[5]; row a[5]; int y,c,d; int e,x; c=(b[3]%b[1]); read y; if(x||c)if(e){print y|a[0];if((7)){}}else x=(!(!x));else c=(-(x))-~a[0]; while(31&&x){e=e-3;{do {x=x+3;{if(0){d=2;next;e=3;}else {a[1]=32;read c;x=(1);}}} while(y>9);}}",
            "read 27 lower 54 31 improve 5 rounds 7 colours 2", "1215941881"},
        {"def f0(z,p){if(z)return p;print 32;read p;} def f1(p){{p=f0(p<p>=p,f0(p,p+p));p=!f0(p,p)||f0(p,p)*f0(1,p);}} row e[1]; int c,d,b; int x,y; while(c!=2){x=x+2;x=e[c<<c]>e[b<3]<d;} while((e[3])){print x;} while(e[-d]){b=b-1;{break;do {x=x-2;if(f0((0),c%5)){x=y;}else {b=d;e[0]=0;}} while(c!=9);b=0;}}",
            "read 29 lower 59 39 improve 2 rounds 7 colours 1", "422057826"},
        {"def f0(b,q,a){read b;q=q&b!=32<((b));read q;} int b,x; int y; int a; def f1(b){if(b){read y;print 1;}else print x>>((b));if((3-2147483647)){int a,i;int u,w;}a=x>>f0(32,a,x)!=x/5>=y;} {} do {x=x-1;b=5-31-x||f1((3));} while(a!=5); print x; read y; int w; while(y!=6){x=x+2;{if(1)print w;}} do {w=w-3;{read x;f1(w);while(b*b||b){y=y-1;{}}}} while(w<3);",
            "read 37 lower 128 91 improve 48 rounds 7 colours 5", "-1281368466"},
        {"int x; if(x){{x=(x)<<(2)&x%x&x;while(x>1){x=x+1;{print x*32*x^!(31)*(5);}}x=x;}}else {print ((x%x));if(x){}else {if((x))read x;else {x=x;}}} x=32&x-x|1>x^(x); read x; if(((x))){x=5;if(x){{print 0;print ((x+2));x=-((32));}}else {}x=x;}else {do {while(x){x=x+3;x=1;}if((x)==x)next;} while(x>9);if(x&x&&x)do {x=x+1;{x=x&&(31<<x);break;}} while(x<31<=-3);}",
            "read 48 lower 108 66 improve 13 rounds 7 colours 2", "-1920334404"},
        {"int e; def f0(a,b,z){do {e=((b));b=(-b);} while((e));} int y,d,c; def f1(q,p,b){} d=f0(7,1,e*d)|d<<e<<2147483647>0; {f0(2147483647&&y,3,f0(c,e,7));} if(32){if(c)while(d/(y)){y=y-1;{c=5;f0(e,2|31,e||32);print c;}}else if(32)y=e*2*32<<f1((d),y,y);else {print (32);print f0(!31,1!=y>>d-d,y);c=~(c);}if(c+c)if(~c)e=5-f0(c>=2147483647,c||c,e<<e);else {d=7;}}else {}",
            "read 29 lower 153 111 improve 16 rounds 7 colours 2", "-1681379537"},
        {"int y,a; if((y)){} read a; y=80; read a; do {a=a-3;{if(2-y-a){if(a)print (32&&a+a-y);y=-(31&&y);if(y){print 31;y=0;read y;}else {}}else break;if((a+32))a=a*a&&1*a;break;}} while((y));",
            "read 24 lower 54 29 improve 13 rounds 6 colours 2", "-773841360"},
        {"int e,d,c; def f0(a){if(32){read a;a=1;c=(2147483647);}} def f1(z,p){if(d<z){return 3&&c>=c&&p;c=(f0(f0(3)));}} e=7; while(e>0){e=e-1;d=c>=e&&1<e-d;} int v; f0(f1(v,v)); c=(f0(5)); if(e)if((d))e=d||f1(32,v);else d=d; e=c&c; {} d=-(c);",
            "read 24 lower 120 65 improve 16 rounds 6 colours 4", "-234647"},
        {"int e,c; row y[3]; y[0]=(c+e); while(e<=3){e=e+3;print e;} read c; e=c*!e-e; y[(0)]=!c^c; read e; print (23<<e>=c<<c); c=((c)<y[(2)]);",
            "read 11 lower 39 29 improve 17 rounds 5 colours 2", "-769519206"},
        {"int e,y; def f0(b){if(5&&y)e=y<<3*(e);y=~((47+2147483647));y=((-b));} if(!(y&7)){do {y=y+1;{if(y){y=(1<<32)+e;read y;print ~(f0(e));}if(93>f0(5)){y=e-f0(3)|1;next;e=95-2147483647<=(1)==y;}else {e=!31|1+e%f0(1)<<e&&y;}}} while(y>5);print y<<f0(2147483647)>>(2147483647);int a;}",
            "read 24 lower 141 96 improve 31 rounds 5 colours 4", "-1170456505"},
        {"int y,c,e; int d; def f0(a,b){a=c;d=c/(!7);if(!b-(y))d=a;else d=a||e;} row x[1]; e=f0(f0(y==1,f0(31,c)),3); if(f0(x[2],c^2))y=5; while(5){y=y+2;while(y){c=c+3;{print 5-c+y+(e);y=f0(0,3||c)^e;}}} int u,v;",
            "read 18 lower 152 102 improve 14 rounds 6 colours 3", "-2101043525"},
        {"int a; int c,e; def f0(q,a){{e=(a);q=((a))<c==26&a^q;}if(-a-!(0)){int v;}} row b[1]; {} while(c!=6){e=e-3;{c=f0(~(28),e&&e)%c;}} if(f0(c,31)>>!2)a=f0((2147483647),b[1])+31; b[1]=a>=7-7-3; a=32^b[0]; read e; f0(c,b[3]); b[1>>5]=(a)||~(0); int i,v;",
            "read 20 lower 124 100 improve 15 rounds 6 colours 3", "-45161243"},
        {"int e,d,b; int x,a,c; def f0(a){c=5>7&&a||2&&c||(1);if(12<b%x-d){print (1);print !((2147483647)-c<5);c=!(32|x)|31;}} int y; if(31>>a^b)f0(y); f0(-1); while(c>4){c=c-3;{a=x;}} a=f0(!y); while(e!=6){y=y+2;{while(0){a=a+3;d=d;}b=f0(2);y=a;}} e=-c&e; y=f0(31)%~(a==d); if(x){int w,i;}",
            "read 30 lower 232 155 improve 23 rounds 6 colours 3", "882353617"},
        {"int b,a; def f0(b,q){read a;print 32-b+b+a;} int y,x,d; def f1(a,z){{a=3>>31;}print -(a==a);int w;} int c,e; d=a; f1(e,y); print a&&y*f0(32&&3,f0(2,c)); if(b>=5>2147483647)if(f1(5<=b,b))c=-f0(-d,2147483647);else {} x=f1(f0(f0(y,32),e&&32),(-(d))); print f1(y,!a>=c); d=a-f0(2147483647,y)<<e&31; if(-(f1(3,d))){}else {a=(d)<=f1(b>>c,f0(a,c));} read a; c=-y; a=f1(y^a,2); while(e<9){y=y+2;{b=(f1(d,-b));}}",
            "read 28 lower 246 197 improve 28 rounds 7 colours 4", "807643356"},
        {"def f0(a,q){} int x; x=31<<0>>x; x=9; x=!x<=f0(7,x)<<f0(2|x,x); while(x>8){x=x+3;{}} do {x=x+1;{}} while(x<=3); while(x!=8){x=x-2;{x=-f0(x,5)<<x-x||x;{read x;}}} while(x<7){x=x-2;print x;} print x; x=f0(f0(x&x,f0(x,x)),~(0)); while(x<=0){x=x+2;break;}",
            "read 28 lower 91 66 improve 17 rounds 6 colours 2", "-1080083754"},
        {"def f0(p,b,z){} row y[5]; int d; int b; def f1(p){f0(f0(7,b,d),~31,d>>p);if(3){}else {}} if(d)y[d-b]=7==b;else {if(d)y[f0(d,d,b)]=b/2|d!=7;else {d=b;}print b%2||f1(0);y[1]=d;} d=y[3]; do {d=d+2;{do {b=b-1;{y[2]=!d;read b;}} while(d>5);}} while((d)); b=y[1]==f1(b/b); y[3]=1; b=32+-(f1(b));",
            "read 27 lower 118 92 improve 15 rounds 6 colours 3", "-1529205743"},
        {"def f0(q,z){while(q!=9){z=z-3;{read z;return (z)&&(31);z=(2147483647);}}{}z=z&z<<(q>>2);} int v,i; i=i; print i+i; do {v=v-1;{do {i=i-2;if(-0||f0(i,i)){}} while(i<=1);}} while(v>4); print -2^v<<v; int a; v=f0(32+v,v%a)&&(v!=a); do i=f0(v-7,(v))&&a||v; while(a>0); if(!~1){v=~(f0(i,a));}else i=f0(f0(-(i),3>a),32|a>=i);",
            "read 29 lower 227 145 improve 36 rounds 6 colours 3", "-1844745507"},
        {"int y; y=!y; y=7; while(y!=1){y=y-1;{do break; while(y<7);}} while(y<=4){} if(y){if(-y){print 3!=y;y=y;if(7){read y;}}} y=((y))!=32; if(7-y+y<<y){{}} int u;",
            "read 24 lower 43 26 improve 16 rounds 6 colours 2", "-2042338293"},
        {"row y[1]; def f0(p){} def f1(a,q){} int c,d,e; int a; print y[!(c)]; y[e-32]=32; a=(-a); if(y[3]!=y[3])print (a); while(d!=4){e=e-3;{while(e!=9){c=c+3;{if(c){e=a<<e*32<<d!=y[0];e=d;}break;}}a=f1(~a,d)*y[a];}}",
            "read 19 lower 55 42 improve 21 rounds 6 colours 5", "-1027515937"},
        {"int y,a;def f0(a){a=((a)&&a);while(a<=8){a=a+2;{a=33;break;y=-a&&y|1;}}}row x[1];x[2]=a;x[1]=2147483647;do {if(~y){a=y;x[1]=-(y)>>f0(y);}else {y=f0(a==32|y||2);}x[x[1]]=f0(y);do {y=y+2;a=3||0;} while(y<4);} while(y!=8);",
            "read 23 lower 114 66 improve 18 rounds 6 colours 2", "457880547"},
        {"def fdef f0(q,z){{}z=-!zz=-!z-z+2;{}} def f1(z,p){} {} f0((2),15); print 2147483647; print 2147483647; print 1||f1((7),3)1((7),3); while(f0(1,7)&f0(0,59)){} while(~0){}",
            "fault 2 9", "1535943885"},
        {"int y; y=((y)); do {y=y+3;pr while(y); y=y; y); y=y; y=3*(y)==y; {} print 5>(y)-y; y=y&&~y&y;",
            "fault 2 29", "369620019"},
        {"int c; row e[5]; int x,a,y; do {} while(x-); e[1]=x<(c); int u,a; e[2]=a;",
            "fault 2 42", "369620074"},
        {"int x,a; while(a!=2)if((a*x))print x;else {int w;} if(x&x<-=(x)){}else x=7; a=a; a=a|a>>3+x>a; if(x)while(x<3){x=x+3;{a=((a));read x;print ((x));}}",
            "fault 2 59", "369620112"},
        {"def row x[100]; def f1(a,b,z){if(b*13<<a){a=(31<<z|z);}z=~a==b||f0(f0(1));while(b>7){z=z+3;{z=x[2];}}} int b,ay; do {b=b-2;{if((e))e=~y;else {do {y=y-2;{}} while(b<1);do e=(b^y); while(a);}while(b<7){a=a-3;{}}}} while(e!=9);",
            "fault 2 4", "1535943880"},
        {"row c[5]; print 5||32; while((!32)){print 7!=3;} do {brelse eak;while(0){while(3%3){break;}next;}} while(3-1&&79>=1); if(3/5^2147483647){}else {do {c[0]=32<(5);if((2147483647)&&7){}} while(-2147483647|95);while(7){}{print 32<<(5);}}",
            "fault 2 60", "369620134"},
        {"def f0(){if(!32)return (40&&5);else print (!2147483647>=63);} int e; read e; if((e&0))print e; e=e; e=e; e=e==e-f0(); do {if(31){while(e>0)print e;print !1%f0()<=2147483647;}} while(f0)); print e;",
            "fault 2 185", "-1426682238"},
        {"int x,d;d=2147483(d)));int a;print a;while(a<4)if(3&&x>a){if((x))break;else {d=a;x=d;a=x;}}else if(((a)))break;do {a=a-1;{int n70;x=(n70);}} while(a<1);",
            "fault 2 17", "369619986"},
        {"row d[100]; def f0(b,a){} int e; int c,b; c=(b-c<=1+c); c=c; read c; e=2|d[~( c; e=2|d[~(b)]; d[2]=c^b|32; do {b=b+2;{f0((b),!31);do read b; while(b!=7);break;}} while(c<=3); if(2147483647){}else {if(c){}if(2)do {b=b+1;{}} while(b>8);d[31]=d[!(c)];}",
            "fault 2 79", "369620174"},
        {"int d,c,y; int x,a; if(3&&d==(1)){y=(x%d);}else {while(<=8){y=y-2;if(d){}else {d=d;x=(0-y%1);br=eak;}}y=((c)||y>>87);} y=32; print ~((d)); c=2; int u; print (a); c=(5)&u; print c;",
            "fault 2 55", "369620108"},
        {"row x[2];int y;int i,w;do {i=i+1;y=x[2]<<i+(7);} while(w<=7);w=y<w;print y;if=~3;else {}do {i=i+1;{}} while((x[x[i]]));if(w){do {i=,i-1;{if((!(5))){w=(-i+y);x[1]=(-w);}while(~!(y)){i=i+2;i=31;}}} while(32);i=(i-2);}else {}",
            "fault 2 77", "369620172"},
        {"int c; int y,x; int d; if(-(7)){if(c){c=3;}do while(5<32){y=y-2;{print y;y=-((d))a;}} while(y<=9);} if((1)){read d;}else {{}} do {y=y-1;if(((2147483647))){do {y=2147483647;d=5;} while(Ay!=8);y=(c);break;}} while(y!=5);",
            "fault 2 81", "369620197"},
    };

    public static void main(String[] args) {
        for (String[] due : DUE) {
            String all = whole(due[0]);
            Press.dueText("the counts of " + due[0], counts(all), due[1]);
            Press.dueText("the hash of all answers of " + due[0] + "\n" + all, "" + all.hashCode(), due[2]);
        }
        Press.end("ReferenceTest");
    }

    private static String counts(String all) {
        StringBuilder out = new StringBuilder();
        for (String line : all.split("\n")) {
            if (line.startsWith("colours")) {
                line = line.substring(0, line.indexOf(' ', 8));
            }
            if (line.matches("(fault|read|lower|improve|colours) .*")) {
                out.append(out.length() == 0 ? "" : " ").append(line);
            }
        }
        return out.toString();
    }

    private static String whole(String text) {
        return whole(new Press().input(3, 0, 2), text);
    }

    /** Every answer of the text, when this one reads it. */
    static String whole(Press p, String text) {
        Counted x = p.x;
        int statements = p.read(text);
        if (statements < 0) {
            return "fault " + -statements + " " + x.place();
        }
        StringBuilder out = new StringBuilder("read " + statements + run(x, 0));
        int n = x.lower();
        if (n == WhilePress.TOO_MUCH) {
            return out.append("\ntoo much " + x.told(3) + " " + x.told(4)).toString();
        }
        out.append("\nlower " + n + " " + x.told(4) + code(x, false));
        boolean isSmall = n * x.told(4) <= 6000;
        out.append(isSmall ? known(x) + live(x, false) : "");
        out.append("\nimprove " + x.improve() + " rounds " + x.told(7) + code(x, true));
        out.append(isSmall ? live(x, true) : "");
        out.append("\ncolours " + x.told(6) + " ");
        for (int r = 0; r < x.told(4); r++) {
            out.append(r == 0 ? "" : ",").append(x.colour(r));
        }
        for (int which = 1; which < 4; which++) {
            out.append(run(x, which));
        }
        return out.toString();
    }

    private static String run(Counted x, int which) {
        StringBuilder out = new StringBuilder("\nrun" + which + " " + x.run(which, 200) + " ");
        for (int i = 0; i < x.told(0); i++) {
            out.append(i == 0 ? "" : ",").append(x.printed(i));
        }
        return out + " " + x.told(1) + " " + x.told(2);
    }

    private static String code(Counted x, boolean improved) {
        StringBuilder out = new StringBuilder("\ncode ");
        for (int i = 0; i < x.told(improved ? 5 : 3); i++) {
            for (int what = 0; what < 5; what++) {
                out.append(what > 0 ? "," : i > 0 ? ";" : "").append(x.code(improved, i, what));
            }
        }
        return out.toString();
    }

    private static String known(Counted x) {
        StringBuilder out = new StringBuilder("\nknown ");
        for (int i = 0; i < x.told(3); i++) {
            out.append(i > 0 ? " " : "");
            for (int r = 0; r < x.told(4); r++) {
                out.append(r > 0 ? "," : "").append(x.isKnown(i, r) ? "" + x.known(i, r) : "-");
            }
        }
        return out.toString();
    }

    private static String live(Counted x, boolean improved) {
        StringBuilder out = new StringBuilder("\nlive ");
        for (int i = 0; i < x.told(improved ? 5 : 3); i++) {
            out.append(i > 0 ? " " : "");
            for (int r = 0; r < x.told(4); r++) {
                out.append(x.isLive(improved, i, r) ? 1 : 0);
            }
        }
        return out.toString();
    }
}
